section
-- ===== PART A: goes FIRST, ahead of the names: the tables' words, and 'selects' of the private methods out of them =====
/-- a private method of a class that the tables say can be made, by its rows of tables_1 -/
def lw_okq (q : MethodName × Nat) : Prop := (q.1.cls ≠ "java/lang/invoke/MethodHandle" ∧ q.1.cls ≠ "java/lang/invoke/VarHandle") ∧ Cond.instantiable q.1.cls q.2 ∈ tables_1 ∧ Cond.privateMethod q.1 ∈ tables_1 ∧ Cond.instanceMethod q.1 ∈ tables_1
theorem lw_p0 : lw_okq (⟨"CoalIsLent$Reader", "readToken", "()V"⟩, 10) := ⟨⟨by decide +kernel, by decide +kernel⟩, List.mem_of_getElem? (i := 46) (by decide +kernel), List.mem_of_getElem? (i := 143) (by decide +kernel), List.mem_of_getElem? (i := 144) (by decide +kernel)⟩
theorem lw_p1 : lw_okq (⟨"CoalIsLent$Reader", "byteAt", "(I)I"⟩, 10) := ⟨⟨by decide +kernel, by decide +kernel⟩, List.mem_of_getElem? (i := 46) (by decide +kernel), List.mem_of_getElem? (i := 147) (by decide +kernel), List.mem_of_getElem? (i := 148) (by decide +kernel)⟩
theorem lw_p2 : lw_okq (⟨"CoalIsLent$Reader", "endOfWord", "()I"⟩, 10) := ⟨⟨by decide +kernel, by decide +kernel⟩, List.mem_of_getElem? (i := 46) (by decide +kernel), List.mem_of_getElem? (i := 160) (by decide +kernel), List.mem_of_getElem? (i := 161) (by decide +kernel)⟩
theorem lw_p3 : lw_okq (⟨"CoalIsLent$Reader", "nameRead", "()I"⟩, 10) := ⟨⟨by decide +kernel, by decide +kernel⟩, List.mem_of_getElem? (i := 46) (by decide +kernel), List.mem_of_getElem? (i := 164) (by decide +kernel), List.mem_of_getElem? (i := 165) (by decide +kernel)⟩
theorem lw_p4 : lw_okq (⟨"CoalIsLent$Reader", "isRead", "(Ljava/lang/String;)Z"⟩, 10) := ⟨⟨by decide +kernel, by decide +kernel⟩, List.mem_of_getElem? (i := 46) (by decide +kernel), List.mem_of_getElem? (i := 169) (by decide +kernel), List.mem_of_getElem? (i := 170) (by decide +kernel)⟩
theorem lw_p5 : lw_okq (⟨"CoalIsLent$Reader", "keyRead", "()I"⟩, 10) := ⟨⟨by decide +kernel, by decide +kernel⟩, List.mem_of_getElem? (i := 46) (by decide +kernel), List.mem_of_getElem? (i := 180) (by decide +kernel), List.mem_of_getElem? (i := 181) (by decide +kernel)⟩
theorem lw_p6 : lw_okq (⟨"CoalIsLent$Reader", "readNumber", "()V"⟩, 10) := ⟨⟨by decide +kernel, by decide +kernel⟩, List.mem_of_getElem? (i := 46) (by decide +kernel), List.mem_of_getElem? (i := 193) (by decide +kernel), List.mem_of_getElem? (i := 194) (by decide +kernel)⟩
theorem lw_p7 : lw_okq (⟨"CoalIsLent$Reader", "expect", "(I)V"⟩, 10) := ⟨⟨by decide +kernel, by decide +kernel⟩, List.mem_of_getElem? (i := 46) (by decide +kernel), List.mem_of_getElem? (i := 200) (by decide +kernel), List.mem_of_getElem? (i := 201) (by decide +kernel)⟩
theorem lw_p8 : lw_okq (⟨"CoalIsLent$Reader", "fail", "()V"⟩, 10) := ⟨⟨by decide +kernel, by decide +kernel⟩, List.mem_of_getElem? (i := 46) (by decide +kernel), List.mem_of_getElem? (i := 204) (by decide +kernel), List.mem_of_getElem? (i := 205) (by decide +kernel)⟩
theorem lw_p9 : lw_okq (⟨"CoalIsLent$Reader", "readOr", "(I)V"⟩, 10) := ⟨⟨by decide +kernel, by decide +kernel⟩, List.mem_of_getElem? (i := 46) (by decide +kernel), List.mem_of_getElem? (i := 208) (by decide +kernel), List.mem_of_getElem? (i := 209) (by decide +kernel)⟩
theorem lw_p10 : lw_okq (⟨"CoalIsLent$Reader", "readAnd", "(I)V"⟩, 10) := ⟨⟨by decide +kernel, by decide +kernel⟩, List.mem_of_getElem? (i := 46) (by decide +kernel), List.mem_of_getElem? (i := 212) (by decide +kernel), List.mem_of_getElem? (i := 213) (by decide +kernel)⟩
theorem lw_p11 : lw_okq (⟨"CoalIsLent$Reader", "readNot", "(I)V"⟩, 10) := ⟨⟨by decide +kernel, by decide +kernel⟩, List.mem_of_getElem? (i := 46) (by decide +kernel), List.mem_of_getElem? (i := 216) (by decide +kernel), List.mem_of_getElem? (i := 217) (by decide +kernel)⟩
theorem lw_p12 : lw_okq (⟨"CoalIsLent$Reader", "opens", "(I)Z"⟩, 10) := ⟨⟨by decide +kernel, by decide +kernel⟩, List.mem_of_getElem? (i := 46) (by decide +kernel), List.mem_of_getElem? (i := 220) (by decide +kernel), List.mem_of_getElem? (i := 221) (by decide +kernel)⟩
theorem lw_p13 : lw_okq (⟨"CoalIsLent$Reader", "emit", "(I)V"⟩, 10) := ⟨⟨by decide +kernel, by decide +kernel⟩, List.mem_of_getElem? (i := 46) (by decide +kernel), List.mem_of_getElem? (i := 224) (by decide +kernel), List.mem_of_getElem? (i := 225) (by decide +kernel)⟩
theorem lw_p14 : lw_okq (⟨"CoalIsLent$Reader", "readSum", "(I)V"⟩, 10) := ⟨⟨by decide +kernel, by decide +kernel⟩, List.mem_of_getElem? (i := 46) (by decide +kernel), List.mem_of_getElem? (i := 228) (by decide +kernel), List.mem_of_getElem? (i := 229) (by decide +kernel)⟩
theorem lw_p15 : lw_okq (⟨"CoalIsLent$Reader", "readTerm", "(I)V"⟩, 10) := ⟨⟨by decide +kernel, by decide +kernel⟩, List.mem_of_getElem? (i := 46) (by decide +kernel), List.mem_of_getElem? (i := 232) (by decide +kernel), List.mem_of_getElem? (i := 233) (by decide +kernel)⟩
def lw_privs_1 : List (MethodName × Nat) := [(⟨"CoalIsLent$Reader", "readToken", "()V"⟩, 10), (⟨"CoalIsLent$Reader", "byteAt", "(I)I"⟩, 10), (⟨"CoalIsLent$Reader", "endOfWord", "()I"⟩, 10), (⟨"CoalIsLent$Reader", "nameRead", "()I"⟩, 10), (⟨"CoalIsLent$Reader", "isRead", "(Ljava/lang/String;)Z"⟩, 10), (⟨"CoalIsLent$Reader", "keyRead", "()I"⟩, 10), (⟨"CoalIsLent$Reader", "readNumber", "()V"⟩, 10), (⟨"CoalIsLent$Reader", "expect", "(I)V"⟩, 10), (⟨"CoalIsLent$Reader", "fail", "()V"⟩, 10), (⟨"CoalIsLent$Reader", "readOr", "(I)V"⟩, 10), (⟨"CoalIsLent$Reader", "readAnd", "(I)V"⟩, 10), (⟨"CoalIsLent$Reader", "readNot", "(I)V"⟩, 10), (⟨"CoalIsLent$Reader", "opens", "(I)Z"⟩, 10), (⟨"CoalIsLent$Reader", "emit", "(I)V"⟩, 10), (⟨"CoalIsLent$Reader", "readSum", "(I)V"⟩, 10), (⟨"CoalIsLent$Reader", "readTerm", "(I)V"⟩, 10)]
theorem lw_r1 : ∀ q ∈ lw_privs_1, lw_okq q := List.forall_mem_cons.mpr ⟨lw_p0, List.forall_mem_cons.mpr ⟨lw_p1, List.forall_mem_cons.mpr ⟨lw_p2, List.forall_mem_cons.mpr ⟨lw_p3, List.forall_mem_cons.mpr ⟨lw_p4, List.forall_mem_cons.mpr ⟨lw_p5, List.forall_mem_cons.mpr ⟨lw_p6, List.forall_mem_cons.mpr ⟨lw_p7, List.forall_mem_cons.mpr ⟨lw_p8, List.forall_mem_cons.mpr ⟨lw_p9, List.forall_mem_cons.mpr ⟨lw_p10, List.forall_mem_cons.mpr ⟨lw_p11, List.forall_mem_cons.mpr ⟨lw_p12, List.forall_mem_cons.mpr ⟨lw_p13, List.forall_mem_cons.mpr ⟨lw_p14, List.forall_mem_cons.mpr ⟨lw_p15, fun _ h => absurd h List.not_mem_nil⟩⟩⟩⟩⟩⟩⟩⟩⟩⟩⟩⟩⟩⟩⟩⟩
theorem lw_p16 : lw_okq (⟨"CoalIsLent$Reader", "readOne", "(I)V"⟩, 10) := ⟨⟨by decide +kernel, by decide +kernel⟩, List.mem_of_getElem? (i := 46) (by decide +kernel), List.mem_of_getElem? (i := 236) (by decide +kernel), List.mem_of_getElem? (i := 237) (by decide +kernel)⟩
theorem lw_p17 : lw_okq (⟨"CoalIsLent$World", "coalsWhere", "([II)I"⟩, 15) := ⟨⟨by decide +kernel, by decide +kernel⟩, List.mem_of_getElem? (i := 254) (by decide +kernel), List.mem_of_getElem? (i := 400) (by decide +kernel), List.mem_of_getElem? (i := 401) (by decide +kernel)⟩
theorem lw_p18 : lw_okq (⟨"CoalIsLent$World", "pass", "(III)V"⟩, 15) := ⟨⟨by decide +kernel, by decide +kernel⟩, List.mem_of_getElem? (i := 254) (by decide +kernel), List.mem_of_getElem? (i := 479) (by decide +kernel), List.mem_of_getElem? (i := 480) (by decide +kernel)⟩
theorem lw_p19 : lw_okq (⟨"CoalIsLent$World", "grow", "(I)V"⟩, 15) := ⟨⟨by decide +kernel, by decide +kernel⟩, List.mem_of_getElem? (i := 254) (by decide +kernel), List.mem_of_getElem? (i := 519) (by decide +kernel), List.mem_of_getElem? (i := 520) (by decide +kernel)⟩
theorem lw_p20 : lw_okq (⟨"CoalIsLent$World", "endDueLoans", "()I"⟩, 15) := ⟨⟨by decide +kernel, by decide +kernel⟩, List.mem_of_getElem? (i := 254) (by decide +kernel), List.mem_of_getElem? (i := 527) (by decide +kernel), List.mem_of_getElem? (i := 528) (by decide +kernel)⟩
theorem lw_p21 : lw_okq (⟨"CoalIsLent$World", "warm", "(I)V"⟩, 15) := ⟨⟨by decide +kernel, by decide +kernel⟩, List.mem_of_getElem? (i := 254) (by decide +kernel), List.mem_of_getElem? (i := 534) (by decide +kernel), List.mem_of_getElem? (i := 535) (by decide +kernel)⟩
theorem lw_p22 : lw_okq (⟨"CoalIsLent", "think", "()LCoalIsLent$World;"⟩, 8) := ⟨⟨by decide +kernel, by decide +kernel⟩, List.mem_of_getElem? (i := 17) (by decide +kernel), List.mem_of_getElem? (i := 548) (by decide +kernel), List.mem_of_getElem? (i := 549) (by decide +kernel)⟩
theorem lw_p23 : lw_okq (⟨"CoalIsLent", "nightsToFailing", "(I)I"⟩, 8) := ⟨⟨by decide +kernel, by decide +kernel⟩, List.mem_of_getElem? (i := 17) (by decide +kernel), List.mem_of_getElem? (i := 566) (by decide +kernel), List.mem_of_getElem? (i := 567) (by decide +kernel)⟩
theorem lw_p24 : lw_okq (⟨"CoalIsLent", "nightsToNoHeat", "(I)I"⟩, 8) := ⟨⟨by decide +kernel, by decide +kernel⟩, List.mem_of_getElem? (i := 17) (by decide +kernel), List.mem_of_getElem? (i := 573) (by decide +kernel), List.mem_of_getElem? (i := 574) (by decide +kernel)⟩
theorem lw_p25 : lw_okq (⟨"CoalIsLent", "payOnce", "()I"⟩, 8) := ⟨⟨by decide +kernel, by decide +kernel⟩, List.mem_of_getElem? (i := 17) (by decide +kernel), List.mem_of_getElem? (i := 587) (by decide +kernel), List.mem_of_getElem? (i := 588) (by decide +kernel)⟩
theorem lw_p26 : lw_okq (⟨"CoalIsLent", "heatIfLent", "(III)I"⟩, 8) := ⟨⟨by decide +kernel, by decide +kernel⟩, List.mem_of_getElem? (i := 17) (by decide +kernel), List.mem_of_getElem? (i := 609) (by decide +kernel), List.mem_of_getElem? (i := 610) (by decide +kernel)⟩
theorem lw_p27 : lw_okq (⟨"CoalIsLent", "heatOfOthersWithout", "(II)I"⟩, 8) := ⟨⟨by decide +kernel, by decide +kernel⟩, List.mem_of_getElem? (i := 17) (by decide +kernel), List.mem_of_getElem? (i := 635) (by decide +kernel), List.mem_of_getElem? (i := 636) (by decide +kernel)⟩
theorem lw_p28 : lw_okq (⟨"CoalIsLent", "judgeRefusal", "(II)I"⟩, 8) := ⟨⟨by decide +kernel, by decide +kernel⟩, List.mem_of_getElem? (i := 17) (by decide +kernel), List.mem_of_getElem? (i := 643) (by decide +kernel), List.mem_of_getElem? (i := 644) (by decide +kernel)⟩
theorem lw_p29 : lw_okq (⟨"CoalIsLent", "toldRefusal", "(I)I"⟩, 8) := ⟨⟨by decide +kernel, by decide +kernel⟩, List.mem_of_getElem? (i := 17) (by decide +kernel), List.mem_of_getElem? (i := 647) (by decide +kernel), List.mem_of_getElem? (i := 648) (by decide +kernel)⟩
theorem lw_p30 : lw_okq (⟨"CoalIsLent", "firstOtherwise", "(ILCoalIsLent$World;I)I"⟩, 8) := ⟨⟨by decide +kernel, by decide +kernel⟩, List.mem_of_getElem? (i := 17) (by decide +kernel), List.mem_of_getElem? (i := 663) (by decide +kernel), List.mem_of_getElem? (i := 664) (by decide +kernel)⟩
theorem lw_p31 : lw_okq (⟨"CoalIsLent", "isTold", "(ILCoalIsLent$World;I)Z"⟩, 8) := ⟨⟨by decide +kernel, by decide +kernel⟩, List.mem_of_getElem? (i := 17) (by decide +kernel), List.mem_of_getElem? (i := 675) (by decide +kernel), List.mem_of_getElem? (i := 676) (by decide +kernel)⟩
def lw_privs_2 : List (MethodName × Nat) := [(⟨"CoalIsLent$Reader", "readOne", "(I)V"⟩, 10), (⟨"CoalIsLent$World", "coalsWhere", "([II)I"⟩, 15), (⟨"CoalIsLent$World", "pass", "(III)V"⟩, 15), (⟨"CoalIsLent$World", "grow", "(I)V"⟩, 15), (⟨"CoalIsLent$World", "endDueLoans", "()I"⟩, 15), (⟨"CoalIsLent$World", "warm", "(I)V"⟩, 15), (⟨"CoalIsLent", "think", "()LCoalIsLent$World;"⟩, 8), (⟨"CoalIsLent", "nightsToFailing", "(I)I"⟩, 8), (⟨"CoalIsLent", "nightsToNoHeat", "(I)I"⟩, 8), (⟨"CoalIsLent", "payOnce", "()I"⟩, 8), (⟨"CoalIsLent", "heatIfLent", "(III)I"⟩, 8), (⟨"CoalIsLent", "heatOfOthersWithout", "(II)I"⟩, 8), (⟨"CoalIsLent", "judgeRefusal", "(II)I"⟩, 8), (⟨"CoalIsLent", "toldRefusal", "(I)I"⟩, 8), (⟨"CoalIsLent", "firstOtherwise", "(ILCoalIsLent$World;I)I"⟩, 8), (⟨"CoalIsLent", "isTold", "(ILCoalIsLent$World;I)Z"⟩, 8)]
theorem lw_r2 : ∀ q ∈ lw_privs_2, lw_okq q := List.forall_mem_cons.mpr ⟨lw_p16, List.forall_mem_cons.mpr ⟨lw_p17, List.forall_mem_cons.mpr ⟨lw_p18, List.forall_mem_cons.mpr ⟨lw_p19, List.forall_mem_cons.mpr ⟨lw_p20, List.forall_mem_cons.mpr ⟨lw_p21, List.forall_mem_cons.mpr ⟨lw_p22, List.forall_mem_cons.mpr ⟨lw_p23, List.forall_mem_cons.mpr ⟨lw_p24, List.forall_mem_cons.mpr ⟨lw_p25, List.forall_mem_cons.mpr ⟨lw_p26, List.forall_mem_cons.mpr ⟨lw_p27, List.forall_mem_cons.mpr ⟨lw_p28, List.forall_mem_cons.mpr ⟨lw_p29, List.forall_mem_cons.mpr ⟨lw_p30, List.forall_mem_cons.mpr ⟨lw_p31, fun _ h => absurd h List.not_mem_nil⟩⟩⟩⟩⟩⟩⟩⟩⟩⟩⟩⟩⟩⟩⟩⟩
theorem lw_p32 : lw_okq (⟨"CoalIsLentModel", "next", "()V"⟩, 37) := ⟨⟨by decide +kernel, by decide +kernel⟩, List.mem_of_getElem? (i := 775) (by decide +kernel), List.mem_of_getElem? (i := 785) (by decide +kernel), List.mem_of_getElem? (i := 786) (by decide +kernel)⟩
theorem lw_p33 : lw_okq (⟨"CoalIsLentModel", "wordFrom", "(II)I"⟩, 37) := ⟨⟨by decide +kernel, by decide +kernel⟩, List.mem_of_getElem? (i := 775) (by decide +kernel), List.mem_of_getElem? (i := 792) (by decide +kernel), List.mem_of_getElem? (i := 793) (by decide +kernel)⟩
theorem lw_p34 : lw_okq (⟨"CoalIsLentModel", "eRead", "()Z"⟩, 37) := ⟨⟨by decide +kernel, by decide +kernel⟩, List.mem_of_getElem? (i := 775) (by decide +kernel), List.mem_of_getElem? (i := 796) (by decide +kernel), List.mem_of_getElem? (i := 797) (by decide +kernel)⟩
theorem lw_p35 : lw_okq (⟨"CoalIsLentModel", "puts", "(I)V"⟩, 37) := ⟨⟨by decide +kernel, by decide +kernel⟩, List.mem_of_getElem? (i := 775) (by decide +kernel), List.mem_of_getElem? (i := 801) (by decide +kernel), List.mem_of_getElem? (i := 802) (by decide +kernel)⟩
theorem lw_p36 : lw_okq (⟨"CoalIsLentModel", "unwinds", "(I)V"⟩, 37) := ⟨⟨by decide +kernel, by decide +kernel⟩, List.mem_of_getElem? (i := 775) (by decide +kernel), List.mem_of_getElem? (i := 805) (by decide +kernel), List.mem_of_getElem? (i := 806) (by decide +kernel)⟩
theorem lw_p37 : lw_okq (⟨"CoalIsLentModel", "opensOne", "(I)Z"⟩, 37) := ⟨⟨by decide +kernel, by decide +kernel⟩, List.mem_of_getElem? (i := 775) (by decide +kernel), List.mem_of_getElem? (i := 812) (by decide +kernel), List.mem_of_getElem? (i := 813) (by decide +kernel)⟩
theorem lw_p38 : lw_okq (⟨"CoalIsLentModel", "holds", "(I)V"⟩, 37) := ⟨⟨by decide +kernel, by decide +kernel⟩, List.mem_of_getElem? (i := 775) (by decide +kernel), List.mem_of_getElem? (i := 816) (by decide +kernel), List.mem_of_getElem? (i := 817) (by decide +kernel)⟩
theorem lw_p39 : lw_okq (⟨"CoalIsLentModel", "signOf", "()I"⟩, 37) := ⟨⟨by decide +kernel, by decide +kernel⟩, List.mem_of_getElem? (i := 775) (by decide +kernel), List.mem_of_getElem? (i := 820) (by decide +kernel), List.mem_of_getElem? (i := 821) (by decide +kernel)⟩
theorem lw_p40 : lw_okq (⟨"CoalIsLentModel", "between", "(I)Z"⟩, 37) := ⟨⟨by decide +kernel, by decide +kernel⟩, List.mem_of_getElem? (i := 775) (by decide +kernel), List.mem_of_getElem? (i := 824) (by decide +kernel), List.mem_of_getElem? (i := 825) (by decide +kernel)⟩
theorem lw_p41 : lw_okq (⟨"CoalIsLentModel", "heatAll", "()I"⟩, 37) := ⟨⟨by decide +kernel, by decide +kernel⟩, List.mem_of_getElem? (i := 775) (by decide +kernel), List.mem_of_getElem? (i := 944) (by decide +kernel), List.mem_of_getElem? (i := 945) (by decide +kernel)⟩
theorem lw_p42 : lw_okq (⟨"CoalIsLentModel", "isHut", "(I)Z"⟩, 37) := ⟨⟨by decide +kernel, by decide +kernel⟩, List.mem_of_getElem? (i := 775) (by decide +kernel), List.mem_of_getElem? (i := 964) (by decide +kernel), List.mem_of_getElem? (i := 965) (by decide +kernel)⟩
theorem lw_p43 : lw_okq (⟨"CoalIsLentModel", "asksOf", "(III)I"⟩, 37) := ⟨⟨by decide +kernel, by decide +kernel⟩, List.mem_of_getElem? (i := 775) (by decide +kernel), List.mem_of_getElem? (i := 968) (by decide +kernel), List.mem_of_getElem? (i := 969) (by decide +kernel)⟩
theorem lw_p44 : lw_okq (⟨"CoalIsLentModel", "owedBy", "(I)I"⟩, 37) := ⟨⟨by decide +kernel, by decide +kernel⟩, List.mem_of_getElem? (i := 775) (by decide +kernel), List.mem_of_getElem? (i := 972) (by decide +kernel), List.mem_of_getElem? (i := 973) (by decide +kernel)⟩
theorem lw_p45 : lw_okq (⟨"CoalIsLentModel", "says", "(I)I"⟩, 37) := ⟨⟨by decide +kernel, by decide +kernel⟩, List.mem_of_getElem? (i := 775) (by decide +kernel), List.mem_of_getElem? (i := 976) (by decide +kernel), List.mem_of_getElem? (i := 977) (by decide +kernel)⟩
theorem lw_p46 : lw_okq (⟨"CoalIsLentModel", "owedTo", "(I)I"⟩, 37) := ⟨⟨by decide +kernel, by decide +kernel⟩, List.mem_of_getElem? (i := 775) (by decide +kernel), List.mem_of_getElem? (i := 999) (by decide +kernel), List.mem_of_getElem? (i := 1000) (by decide +kernel)⟩
theorem lw_p47 : lw_okq (⟨"CoalIsLentModel", "lentBy", "(I)I"⟩, 37) := ⟨⟨by decide +kernel, by decide +kernel⟩, List.mem_of_getElem? (i := 775) (by decide +kernel), List.mem_of_getElem? (i := 1003) (by decide +kernel), List.mem_of_getElem? (i := 1004) (by decide +kernel)⟩
def lw_privs_3 : List (MethodName × Nat) := [(⟨"CoalIsLentModel", "next", "()V"⟩, 37), (⟨"CoalIsLentModel", "wordFrom", "(II)I"⟩, 37), (⟨"CoalIsLentModel", "eRead", "()Z"⟩, 37), (⟨"CoalIsLentModel", "puts", "(I)V"⟩, 37), (⟨"CoalIsLentModel", "unwinds", "(I)V"⟩, 37), (⟨"CoalIsLentModel", "opensOne", "(I)Z"⟩, 37), (⟨"CoalIsLentModel", "holds", "(I)V"⟩, 37), (⟨"CoalIsLentModel", "signOf", "()I"⟩, 37), (⟨"CoalIsLentModel", "between", "(I)Z"⟩, 37), (⟨"CoalIsLentModel", "heatAll", "()I"⟩, 37), (⟨"CoalIsLentModel", "isHut", "(I)Z"⟩, 37), (⟨"CoalIsLentModel", "asksOf", "(III)I"⟩, 37), (⟨"CoalIsLentModel", "owedBy", "(I)I"⟩, 37), (⟨"CoalIsLentModel", "says", "(I)I"⟩, 37), (⟨"CoalIsLentModel", "owedTo", "(I)I"⟩, 37), (⟨"CoalIsLentModel", "lentBy", "(I)I"⟩, 37)]
theorem lw_r3 : ∀ q ∈ lw_privs_3, lw_okq q := List.forall_mem_cons.mpr ⟨lw_p32, List.forall_mem_cons.mpr ⟨lw_p33, List.forall_mem_cons.mpr ⟨lw_p34, List.forall_mem_cons.mpr ⟨lw_p35, List.forall_mem_cons.mpr ⟨lw_p36, List.forall_mem_cons.mpr ⟨lw_p37, List.forall_mem_cons.mpr ⟨lw_p38, List.forall_mem_cons.mpr ⟨lw_p39, List.forall_mem_cons.mpr ⟨lw_p40, List.forall_mem_cons.mpr ⟨lw_p41, List.forall_mem_cons.mpr ⟨lw_p42, List.forall_mem_cons.mpr ⟨lw_p43, List.forall_mem_cons.mpr ⟨lw_p44, List.forall_mem_cons.mpr ⟨lw_p45, List.forall_mem_cons.mpr ⟨lw_p46, List.forall_mem_cons.mpr ⟨lw_p47, fun _ h => absurd h List.not_mem_nil⟩⟩⟩⟩⟩⟩⟩⟩⟩⟩⟩⟩⟩⟩⟩⟩
theorem lw_p48 : lw_okq (⟨"CoalIsLentModel", "mayLend", "(II)Z"⟩, 37) := ⟨⟨by decide +kernel, by decide +kernel⟩, List.mem_of_getElem? (i := 775) (by decide +kernel), List.mem_of_getElem? (i := 1014) (by decide +kernel), List.mem_of_getElem? (i := 1015) (by decide +kernel)⟩
theorem lw_p49 : lw_okq (⟨"CoalIsLentModel", "lends", "(III)V"⟩, 37) := ⟨⟨by decide +kernel, by decide +kernel⟩, List.mem_of_getElem? (i := 775) (by decide +kernel), List.mem_of_getElem? (i := 1018) (by decide +kernel), List.mem_of_getElem? (i := 1019) (by decide +kernel)⟩
theorem lw_p50 : lw_okq (⟨"CoalIsLentModel", "moves", "(III)V"⟩, 37) := ⟨⟨by decide +kernel, by decide +kernel⟩, List.mem_of_getElem? (i := 775) (by decide +kernel), List.mem_of_getElem? (i := 1022) (by decide +kernel), List.mem_of_getElem? (i := 1023) (by decide +kernel)⟩
theorem lw_p51 : lw_okq (⟨"CoalIsLentModel", "isLoan", "(I)Z"⟩, 37) := ⟨⟨by decide +kernel, by decide +kernel⟩, List.mem_of_getElem? (i := 775) (by decide +kernel), List.mem_of_getElem? (i := 1030) (by decide +kernel), List.mem_of_getElem? (i := 1031) (by decide +kernel)⟩
theorem lw_p52 : lw_okq (⟨"CoalIsLentModel", "drops", "(I)V"⟩, 37) := ⟨⟨by decide +kernel, by decide +kernel⟩, List.mem_of_getElem? (i := 775) (by decide +kernel), List.mem_of_getElem? (i := 1038) (by decide +kernel), List.mem_of_getElem? (i := 1039) (by decide +kernel)⟩
theorem lw_p53 : lw_okq (⟨"CoalIsLentModel", "nightOf", "()I"⟩, 37) := ⟨⟨by decide +kernel, by decide +kernel⟩, List.mem_of_getElem? (i := 775) (by decide +kernel), List.mem_of_getElem? (i := 1050) (by decide +kernel), List.mem_of_getElem? (i := 1051) (by decide +kernel)⟩
theorem lw_p54 : lw_okq (⟨"CoalIsLentModel", "growsOf", "(II)I"⟩, 37) := ⟨⟨by decide +kernel, by decide +kernel⟩, List.mem_of_getElem? (i := 775) (by decide +kernel), List.mem_of_getElem? (i := 1054) (by decide +kernel), List.mem_of_getElem? (i := 1055) (by decide +kernel)⟩
theorem lw_p55 : lw_okq (⟨"CoalIsLentModel", "hearth", "(I)V"⟩, 37) := ⟨⟨by decide +kernel, by decide +kernel⟩, List.mem_of_getElem? (i := 775) (by decide +kernel), List.mem_of_getElem? (i := 1058) (by decide +kernel), List.mem_of_getElem? (i := 1059) (by decide +kernel)⟩
theorem lw_p56 : lw_okq (⟨"CoalIsLentModel", "burnsOf", "(I)I"⟩, 37) := ⟨⟨by decide +kernel, by decide +kernel⟩, List.mem_of_getElem? (i := 775) (by decide +kernel), List.mem_of_getElem? (i := 1062) (by decide +kernel), List.mem_of_getElem? (i := 1063) (by decide +kernel)⟩
theorem lw_p57 : lw_okq (⟨"CoalIsLentModel", "coolsOf", "(I)I"⟩, 37) := ⟨⟨by decide +kernel, by decide +kernel⟩, List.mem_of_getElem? (i := 775) (by decide +kernel), List.mem_of_getElem? (i := 1066) (by decide +kernel), List.mem_of_getElem? (i := 1067) (by decide +kernel)⟩
theorem lw_p58 : lw_okq (⟨"CoalIsLentModel", "keeps", "()V"⟩, 37) := ⟨⟨by decide +kernel, by decide +kernel⟩, List.mem_of_getElem? (i := 775) (by decide +kernel), List.mem_of_getElem? (i := 1074) (by decide +kernel), List.mem_of_getElem? (i := 1075) (by decide +kernel)⟩
theorem lw_p59 : lw_okq (⟨"CoalIsLentModel", "goes", "(I)I"⟩, 37) := ⟨⟨by decide +kernel, by decide +kernel⟩, List.mem_of_getElem? (i := 775) (by decide +kernel), List.mem_of_getElem? (i := 1078) (by decide +kernel), List.mem_of_getElem? (i := 1079) (by decide +kernel)⟩
theorem lw_p60 : lw_okq (⟨"CoalIsLentModel", "lays", "()V"⟩, 37) := ⟨⟨by decide +kernel, by decide +kernel⟩, List.mem_of_getElem? (i := 775) (by decide +kernel), List.mem_of_getElem? (i := 1082) (by decide +kernel), List.mem_of_getElem? (i := 1083) (by decide +kernel)⟩
theorem lw_p61 : lw_okq (⟨"CoalIsLentModel", "sourceOf", "(I)I"⟩, 37) := ⟨⟨by decide +kernel, by decide +kernel⟩, List.mem_of_getElem? (i := 775) (by decide +kernel), List.mem_of_getElem? (i := 1103) (by decide +kernel), List.mem_of_getElem? (i := 1104) (by decide +kernel)⟩
theorem lw_p62 : lw_okq (⟨"CoalIsLentModel", "failsBut", "(II)I"⟩, 37) := ⟨⟨by decide +kernel, by decide +kernel⟩, List.mem_of_getElem? (i := 775) (by decide +kernel), List.mem_of_getElem? (i := 1123) (by decide +kernel), List.mem_of_getElem? (i := 1124) (by decide +kernel)⟩
theorem lw_p63 : lw_okq (⟨"CoalIsLentModel", "toldWrong", "(II)I"⟩, 37) := ⟨⟨by decide +kernel, by decide +kernel⟩, List.mem_of_getElem? (i := 775) (by decide +kernel), List.mem_of_getElem? (i := 1138) (by decide +kernel), List.mem_of_getElem? (i := 1139) (by decide +kernel)⟩
def lw_privs_4 : List (MethodName × Nat) := [(⟨"CoalIsLentModel", "mayLend", "(II)Z"⟩, 37), (⟨"CoalIsLentModel", "lends", "(III)V"⟩, 37), (⟨"CoalIsLentModel", "moves", "(III)V"⟩, 37), (⟨"CoalIsLentModel", "isLoan", "(I)Z"⟩, 37), (⟨"CoalIsLentModel", "drops", "(I)V"⟩, 37), (⟨"CoalIsLentModel", "nightOf", "()I"⟩, 37), (⟨"CoalIsLentModel", "growsOf", "(II)I"⟩, 37), (⟨"CoalIsLentModel", "hearth", "(I)V"⟩, 37), (⟨"CoalIsLentModel", "burnsOf", "(I)I"⟩, 37), (⟨"CoalIsLentModel", "coolsOf", "(I)I"⟩, 37), (⟨"CoalIsLentModel", "keeps", "()V"⟩, 37), (⟨"CoalIsLentModel", "goes", "(I)I"⟩, 37), (⟨"CoalIsLentModel", "lays", "()V"⟩, 37), (⟨"CoalIsLentModel", "sourceOf", "(I)I"⟩, 37), (⟨"CoalIsLentModel", "failsBut", "(II)I"⟩, 37), (⟨"CoalIsLentModel", "toldWrong", "(II)I"⟩, 37)]
theorem lw_r4 : ∀ q ∈ lw_privs_4, lw_okq q := List.forall_mem_cons.mpr ⟨lw_p48, List.forall_mem_cons.mpr ⟨lw_p49, List.forall_mem_cons.mpr ⟨lw_p50, List.forall_mem_cons.mpr ⟨lw_p51, List.forall_mem_cons.mpr ⟨lw_p52, List.forall_mem_cons.mpr ⟨lw_p53, List.forall_mem_cons.mpr ⟨lw_p54, List.forall_mem_cons.mpr ⟨lw_p55, List.forall_mem_cons.mpr ⟨lw_p56, List.forall_mem_cons.mpr ⟨lw_p57, List.forall_mem_cons.mpr ⟨lw_p58, List.forall_mem_cons.mpr ⟨lw_p59, List.forall_mem_cons.mpr ⟨lw_p60, List.forall_mem_cons.mpr ⟨lw_p61, List.forall_mem_cons.mpr ⟨lw_p62, List.forall_mem_cons.mpr ⟨lw_p63, fun _ h => absurd h List.not_mem_nil⟩⟩⟩⟩⟩⟩⟩⟩⟩⟩⟩⟩⟩⟩⟩⟩
theorem lw_p64 : lw_okq (⟨"CoalIsLentModel", "sheetWrong", "(I)I"⟩, 37) := ⟨⟨by decide +kernel, by decide +kernel⟩, List.mem_of_getElem? (i := 775) (by decide +kernel), List.mem_of_getElem? (i := 1142) (by decide +kernel), List.mem_of_getElem? (i := 1143) (by decide +kernel)⟩
theorem lw_p65 : lw_okq (⟨"CoalIsLentModel", "unlike", "(II)I"⟩, 37) := ⟨⟨by decide +kernel, by decide +kernel⟩, List.mem_of_getElem? (i := 775) (by decide +kernel), List.mem_of_getElem? (i := 1146) (by decide +kernel), List.mem_of_getElem? (i := 1147) (by decide +kernel)⟩
theorem lw_p66 : lw_okq (⟨"CoalIsLentModel", "snows", "(II)I"⟩, 37) := ⟨⟨by decide +kernel, by decide +kernel⟩, List.mem_of_getElem? (i := 775) (by decide +kernel), List.mem_of_getElem? (i := 1175) (by decide +kernel), List.mem_of_getElem? (i := 1176) (by decide +kernel)⟩
def lw_privs_5 : List (MethodName × Nat) := [(⟨"CoalIsLentModel", "sheetWrong", "(I)I"⟩, 37), (⟨"CoalIsLentModel", "unlike", "(II)I"⟩, 37), (⟨"CoalIsLentModel", "snows", "(II)I"⟩, 37)]
theorem lw_r5 : ∀ q ∈ lw_privs_5, lw_okq q := List.forall_mem_cons.mpr ⟨lw_p64, List.forall_mem_cons.mpr ⟨lw_p65, List.forall_mem_cons.mpr ⟨lw_p66, fun _ h => absurd h List.not_mem_nil⟩⟩⟩
def lw_privs : List (MethodName × Nat) := lw_privs_1 ++ (lw_privs_2 ++ (lw_privs_3 ++ (lw_privs_4 ++ (lw_privs_5))))
def lw_tbl : List Cond := k2_sels lw_privs ++ tables_1
theorem lw_privs_ok : ∀ q ∈ lw_privs, lw_okq q := by
  show ∀ q ∈ lw_privs_1 ++ (lw_privs_2 ++ (lw_privs_3 ++ (lw_privs_4 ++ (lw_privs_5)))), lw_okq q
  exact List.forall_mem_append.mpr ⟨lw_r1, List.forall_mem_append.mpr ⟨lw_r2, List.forall_mem_append.mpr ⟨lw_r3, List.forall_mem_append.mpr ⟨lw_r4, lw_r5⟩⟩⟩⟩
-- ===== end of PART A; then your names; then what follows =====
/-! ===== BEGIN words of one list among another's, by their places ===== -/
theorem goodIn_r {big : List Cond} (ws : List Cond) (ps : List Nat) (hp : ws = ps.filterMap (fun i => big[i]?)) (h : ws.all goodWord = true) : GoodIn big ws := by
  intro w hw
  have h1 := List.all_eq_true.mp h w hw
  rw [hp] at hw
  obtain ⟨i, -, hi⟩ := List.mem_filterMap.mp hw
  have hm : w ∈ big := by first | exact List.mem_of_getElem? hi | exact List.getElem?_mem hi
  exact ⟨hm, good_of_word h1⟩
theorem goodIn_app {big a b : List Cond} (ha : GoodIn big a) (hb : GoodIn big b) : GoodIn big (a ++ b) := fun w h => (List.mem_append.mp h).elim (ha w) (hb w)
theorem goodIn_ca {big a b : List Cond} {c : Cond} (ha : GoodIn big (c :: a)) (hb : GoodIn big b) : GoodIn big (c :: (a ++ b)) := fun w h => (List.mem_cons.mp h).elim (fun e => ha w (List.mem_cons.mpr (Or.inl e))) (fun h => (List.mem_append.mp h).elim (fun h => ha w (List.mem_cons.mpr (Or.inr h))) (hb w))
theorem goodIn_sub {big ws : List Cond} (hm : ∀ w ∈ ws, w ∈ big) (h : ws.all goodWord = true) : GoodIn big ws := fun w hw => ⟨hm w hw, good_of_word (List.all_eq_true.mp h w hw)⟩
/-! ===== END ===== -/

/-! ===== BEGIN printed: names, fields, word lists, decode rows ===== -/
def RX0 : String := "CoalIsLent$Code"
def TX0 : u_T := fun k => match k with
  | _ => ("", "", "", false)
def tyX0 : Nat → FieldType := fun k => match k with
  | _ => .int
abbrev wsX00 : List Cond := u_ws RX0 TX0 0
theorem nmX0 : ∀ a, a < 0 → ∀ b, b < 0 → a ≠ b → (TX0 a).2.1 ≠ (TX0 b).2.1 := by decide +kernel
theorem tyX0_ok : ∀ k, k < 0 → parseFieldDescriptor (TX0 k).2.2.1 = some (tyX0 k) := by decide +kernel
abbrev cX0_ofName : ByteArray := prog_2_method_2_code
def yX0_ofName : MethodName := ⟨RX0, "ofName", "(I)I"⟩
abbrev cX0_isName : ByteArray := prog_2_method_3_code
def yX0_isName : MethodName := ⟨RX0, "isName", "(I)Z"⟩
abbrev cX0_isOfOne : ByteArray := prog_2_method_4_code
def yX0_isOfOne : MethodName := ⟨RX0, "isOfOne", "(I)Z"⟩
abbrev cX0_ofOne : ByteArray := prog_2_method_5_code
def yX0_ofOne : MethodName := ⟨RX0, "ofOne", "(II)I"⟩
abbrev cX0_isOfTwo : ByteArray := prog_2_method_6_code
def yX0_isOfTwo : MethodName := ⟨RX0, "isOfTwo", "(I)Z"⟩
abbrev cX0_ofTwo : ByteArray := prog_2_method_7_code
def yX0_ofTwo : MethodName := ⟨RX0, "ofTwo", "(III)I"⟩
def RX1 : String := "CoalIsLent$Kinds"
def TX1 : u_T := fun k => match k with
  | _ => ("", "", "", false)
def tyX1 : Nat → FieldType := fun k => match k with
  | _ => .int
abbrev wsX10 : List Cond := u_ws RX1 TX1 0
theorem nmX1 : ∀ a, a < 0 → ∀ b, b < 0 → a ≠ b → (TX1 a).2.1 ≠ (TX1 b).2.1 := by decide +kernel
theorem tyX1_ok : ∀ k, k < 0 → parseFieldDescriptor (TX1 k).2.2.1 = some (tyX1 k) := by decide +kernel
abbrev cX1_isOne : ByteArray := prog_3_method_2_code
def yX1_isOne : MethodName := ⟨RX1, "isOne", "(II)Z"⟩
abbrev cX1_growth : ByteArray := prog_3_method_3_code
def yX1_growth : MethodName := ⟨RX1, "growth", "(IIII)I"⟩
abbrev cX1_cooling : ByteArray := prog_3_method_4_code
def yX1_cooling : MethodName := ⟨RX1, "cooling", "(III)I"⟩
abbrev cX1_burning : ByteArray := prog_3_method_5_code
def yX1_burning : MethodName := ⟨RX1, "burning", "(IIII)I"⟩
def RX2 : String := "CoalIsLent$Reader"
def TX2 : u_T := fun k => match k with
  | 0 => ("CoalIsLent$Reader", "bytes", "[I", true)
  | 1 => ("CoalIsLent$Reader", "size", "I", false)
  | 2 => ("CoalIsLent$Reader", "code", "[I", true)
  | 3 => ("CoalIsLent$Reader", "codes", "I", false)
  | 4 => ("CoalIsLent$Reader", "ends", "[I", true)
  | 5 => ("CoalIsLent$Reader", "place", "I", false)
  | 6 => ("CoalIsLent$Reader", "start", "I", false)
  | 7 => ("CoalIsLent$Reader", "token", "I", false)
  | 8 => ("CoalIsLent$Reader", "number", "I", false)
  | _ => ("CoalIsLent$Reader", "fault", "I", false)
def tyX2 : Nat → FieldType := fun k => match k with
  | 0 => .array .int
  | 1 => .int
  | 2 => .array .int
  | 3 => .int
  | 4 => .array .int
  | 5 => .int
  | 6 => .int
  | 7 => .int
  | 8 => .int
  | _ => .int
abbrev wsX20 : List Cond := u_ws RX2 TX2 10
theorem nmX2 : ∀ a, a < 10 → ∀ b, b < 10 → a ≠ b → (TX2 a).2.1 ≠ (TX2 b).2.1 := by decide +kernel
theorem tyX2_ok : ∀ k, k < 10 → parseFieldDescriptor (TX2 k).2.2.1 = some (tyX2 k) := by decide +kernel
abbrev cX2_init : ByteArray := prog_4_method_1_code
def yX2_init : MethodName := ⟨RX2, "<init>", "()V"⟩
abbrev cX2_takeByte : ByteArray := prog_4_method_2_code
def yX2_takeByte : MethodName := ⟨RX2, "takeByte", "(I)V"⟩
abbrev cX2_clear : ByteArray := prog_4_method_3_code
def yX2_clear : MethodName := ⟨RX2, "clear", "()V"⟩
abbrev cX2_readText : ByteArray := prog_4_method_4_code
def yX2_readText : MethodName := ⟨RX2, "readText", "()I"⟩
abbrev cX2_expect : ByteArray := prog_4_method_5_code
def yX2_expect : MethodName := ⟨RX2, "expect", "(I)V"⟩
abbrev cX2_fail : ByteArray := prog_4_method_6_code
def yX2_fail : MethodName := ⟨RX2, "fail", "()V"⟩
abbrev cX2_emit : ByteArray := prog_4_method_7_code
def yX2_emit : MethodName := ⟨RX2, "emit", "(I)V"⟩
abbrev cX2_readOr : ByteArray := prog_4_method_8_code
def yX2_readOr : MethodName := ⟨RX2, "readOr", "(I)V"⟩
abbrev cX2_readAnd : ByteArray := prog_4_method_9_code
def yX2_readAnd : MethodName := ⟨RX2, "readAnd", "(I)V"⟩
abbrev cX2_readNot : ByteArray := prog_4_method_10_code
def yX2_readNot : MethodName := ⟨RX2, "readNot", "(I)V"⟩
abbrev cX2_readSum : ByteArray := prog_4_method_11_code
def yX2_readSum : MethodName := ⟨RX2, "readSum", "(I)V"⟩
abbrev cX2_readTerm : ByteArray := prog_4_method_12_code
def yX2_readTerm : MethodName := ⟨RX2, "readTerm", "(I)V"⟩
abbrev cX2_readOne : ByteArray := prog_4_method_13_code
def yX2_readOne : MethodName := ⟨RX2, "readOne", "(I)V"⟩
abbrev cX2_opens : ByteArray := prog_4_method_14_code
def yX2_opens : MethodName := ⟨RX2, "opens", "(I)Z"⟩
abbrev cX2_readToken : ByteArray := prog_4_method_15_code
def yX2_readToken : MethodName := ⟨RX2, "readToken", "()V"⟩
abbrev cX2_endOfWord : ByteArray := prog_4_method_16_code
def yX2_endOfWord : MethodName := ⟨RX2, "endOfWord", "()I"⟩
abbrev cX2_readNumber : ByteArray := prog_4_method_17_code
def yX2_readNumber : MethodName := ⟨RX2, "readNumber", "()V"⟩
abbrev cX2_keyRead : ByteArray := prog_4_method_18_code
def yX2_keyRead : MethodName := ⟨RX2, "keyRead", "()I"⟩
abbrev cX2_nameRead : ByteArray := prog_4_method_19_code
def yX2_nameRead : MethodName := ⟨RX2, "nameRead", "()I"⟩
abbrev cX2_isRead : ByteArray := prog_4_method_20_code
def yX2_isRead : MethodName := ⟨RX2, "isRead", "(Ljava/lang/String;)Z"⟩
abbrev cX2_byteAt : ByteArray := prog_4_method_21_code
def yX2_byteAt : MethodName := ⟨RX2, "byteAt", "(I)I"⟩
abbrev cX2_isBlank : ByteArray := prog_4_method_22_code
def yX2_isBlank : MethodName := ⟨RX2, "isBlank", "(I)Z"⟩
abbrev cX2_isLetter : ByteArray := prog_4_method_23_code
def yX2_isLetter : MethodName := ⟨RX2, "isLetter", "(I)Z"⟩
abbrev cX2_isDigit : ByteArray := prog_4_method_24_code
def yX2_isDigit : MethodName := ⟨RX2, "isDigit", "(I)Z"⟩
abbrev cX2_isSign : ByteArray := prog_4_method_25_code
def yX2_isSign : MethodName := ⟨RX2, "isSign", "(I)Z"⟩
def RX3 : String := "CoalIsLent$Sheets"
def TX3 : u_T := fun k => match k with
  | 0 => ("CoalIsLent$Sheets", "sorts", "[I", true)
  | 1 => ("CoalIsLent$Sheets", "sizes", "[I", true)
  | _ => ("CoalIsLent$Sheets", "numbers", "[I", true)
def tyX3 : Nat → FieldType := fun k => match k with
  | 0 => .array .int
  | 1 => .array .int
  | _ => .array .int
abbrev wsX30 : List Cond := u_ws RX3 TX3 3
theorem nmX3 : ∀ a, a < 3 → ∀ b, b < 3 → a ≠ b → (TX3 a).2.1 ≠ (TX3 b).2.1 := by decide +kernel
theorem tyX3_ok : ∀ k, k < 3 → parseFieldDescriptor (TX3 k).2.2.1 = some (tyX3 k) := by decide +kernel
abbrev cX3_init : ByteArray := prog_5_method_1_code
def yX3_init : MethodName := ⟨RX3, "<init>", "()V"⟩
abbrev cX3_isSheet : ByteArray := prog_5_method_2_code
def yX3_isSheet : MethodName := ⟨RX3, "isSheet", "(I)Z"⟩
abbrev cX3_isMissing : ByteArray := prog_5_method_3_code
def yX3_isMissing : MethodName := ⟨RX3, "isMissing", "(I)Z"⟩
abbrev cX3_sortOf : ByteArray := prog_5_method_4_code
def yX3_sortOf : MethodName := ⟨RX3, "sortOf", "(I)I"⟩
abbrev cX3_sizeOf : ByteArray := prog_5_method_5_code
def yX3_sizeOf : MethodName := ⟨RX3, "sizeOf", "(I)I"⟩
abbrev cX3_isPlace : ByteArray := prog_5_method_6_code
def yX3_isPlace : MethodName := ⟨RX3, "isPlace", "(II)Z"⟩
abbrev cX3_isStretch : ByteArray := prog_5_method_7_code
def yX3_isStretch : MethodName := ⟨RX3, "isStretch", "(III)Z"⟩
abbrev cX3_renew : ByteArray := prog_5_method_8_code
def yX3_renew : MethodName := ⟨RX3, "renew", "(III)V"⟩
abbrev cX3_at : ByteArray := prog_5_method_9_code
def yX3_at : MethodName := ⟨RX3, "at", "(II)I"⟩
abbrev cX3_write : ByteArray := prog_5_method_10_code
def yX3_write : MethodName := ⟨RX3, "write", "(III)V"⟩
abbrev cX3_move : ByteArray := prog_5_method_11_code
def yX3_move : MethodName := ⟨RX3, "move", "(IIIII)V"⟩
def RX4 : String := "CoalIsLent$Texts"
def TX4 : u_T := fun k => match k with
  | 0 => ("CoalIsLent$Texts", "code", "[I", true)
  | 1 => ("CoalIsLent$Texts", "ends", "[I", true)
  | 2 => ("CoalIsLent$Texts", "stack", "[I", true)
  | _ => ("CoalIsLent$Texts", "known", "I", false)
def tyX4 : Nat → FieldType := fun k => match k with
  | 0 => .array .int
  | 1 => .array .int
  | 2 => .array .int
  | _ => .int
abbrev wsX40 : List Cond := u_ws RX4 TX4 4
theorem nmX4 : ∀ a, a < 4 → ∀ b, b < 4 → a ≠ b → (TX4 a).2.1 ≠ (TX4 b).2.1 := by decide +kernel
theorem tyX4_ok : ∀ k, k < 4 → parseFieldDescriptor (TX4 k).2.2.1 = some (tyX4 k) := by decide +kernel
abbrev cX4_init : ByteArray := prog_6_method_1_code
def yX4_init : MethodName := ⟨RX4, "<init>", "()V"⟩
abbrev cX4_keep : ByteArray := prog_6_method_2_code
def yX4_keep : MethodName := ⟨RX4, "keep", "(LCoalIsLent$Reader;)I"⟩
abbrev cX4_valueOf : ByteArray := prog_6_method_3_code
def yX4_valueOf : MethodName := ⟨RX4, "valueOf", "(II[I)I"⟩
def RX5 : String := "CoalIsLent$World"
def TX5 : u_T := fun k => match k with
  | 0 => ("CoalIsLent$World", "heat", "[I", true)
  | 1 => ("CoalIsLent$World", "wood", "[I", true)
  | 2 => ("CoalIsLent$World", "cold", "[I", true)
  | 3 => ("CoalIsLent$World", "kind", "[I", true)
  | 4 => ("CoalIsLent$World", "more", "[I", true)
  | 5 => ("CoalIsLent$World", "from", "[I", true)
  | 6 => ("CoalIsLent$World", "to", "[I", true)
  | 7 => ("CoalIsLent$World", "coal", "[I", true)
  | 8 => ("CoalIsLent$World", "due", "[I", true)
  | 9 => ("CoalIsLent$World", "huts", "I", false)
  | 10 => ("CoalIsLent$World", "loans", "I", false)
  | 11 => ("CoalIsLent$World", "night", "I", false)
  | 12 => ("CoalIsLent$World", "law", "I", false)
  | 13 => ("CoalIsLent$World", "texts", "LCoalIsLent$Texts;", true)
  | _ => ("CoalIsLent$World", "names", "[I", true)
def tyX5 : Nat → FieldType := fun k => match k with
  | 0 => .array .int
  | 1 => .array .int
  | 2 => .array .int
  | 3 => .array .int
  | 4 => .array .int
  | 5 => .array .int
  | 6 => .array .int
  | 7 => .array .int
  | 8 => .array .int
  | 9 => .int
  | 10 => .int
  | 11 => .int
  | 12 => .int
  | 13 => .object "CoalIsLent$Texts"
  | _ => .array .int
abbrev wsX50 : List Cond := u_ws RX5 TX5 15
theorem nmX5 : ∀ a, a < 15 → ∀ b, b < 15 → a ≠ b → (TX5 a).2.1 ≠ (TX5 b).2.1 := by decide +kernel
theorem tyX5_ok : ∀ k, k < 15 → parseFieldDescriptor (TX5 k).2.2.1 = some (tyX5 k) := by decide +kernel
abbrev cX5_init : ByteArray := prog_7_method_1_code
def yX5_init : MethodName := ⟨RX5, "<init>", "(LCoalIsLent$Texts;)V"⟩
abbrev cX5_becomeAs : ByteArray := prog_7_method_2_code
def yX5_becomeAs : MethodName := ⟨RX5, "becomeAs", "(LCoalIsLent$World;)V"⟩
abbrev cX5_isHut : ByteArray := prog_7_method_3_code
def yX5_isHut : MethodName := ⟨RX5, "isHut", "(I)Z"⟩
abbrev cX5_isLoan : ByteArray := prog_7_method_4_code
def yX5_isLoan : MethodName := ⟨RX5, "isLoan", "(I)Z"⟩
abbrev cX5_comes : ByteArray := prog_7_method_5_code
def yX5_comes : MethodName := ⟨RX5, "comes", "(II)I"⟩
abbrev cX5_stateOf : ByteArray := prog_7_method_6_code
def yX5_stateOf : MethodName := ⟨RX5, "stateOf", "(II)I"⟩
abbrev cX5_become : ByteArray := prog_7_method_7_code
def yX5_become : MethodName := ⟨RX5, "become", "(III)V"⟩
abbrev cX5_heatOfAll : ByteArray := prog_7_method_8_code
def yX5_heatOfAll : MethodName := ⟨RX5, "heatOfAll", "()I"⟩
abbrev cX5_owes : ByteArray := prog_7_method_9_code
def yX5_owes : MethodName := ⟨RX5, "owes", "(I)I"⟩
abbrev cX5_isOwed : ByteArray := prog_7_method_10_code
def yX5_isOwed : MethodName := ⟨RX5, "isOwed", "(I)I"⟩
abbrev cX5_coalsWhere : ByteArray := prog_7_method_11_code
def yX5_coalsWhere : MethodName := ⟨RX5, "coalsWhere", "([II)I"⟩
abbrev cX5_loansFrom : ByteArray := prog_7_method_12_code
def yX5_loansFrom : MethodName := ⟨RX5, "loansFrom", "(I)I"⟩
abbrev cX5_sourceOf : ByteArray := prog_7_method_13_code
def yX5_sourceOf : MethodName := ⟨RX5, "sourceOf", "(I)I"⟩
abbrev cX5_lends : ByteArray := prog_7_method_14_code
def yX5_lends : MethodName := ⟨RX5, "lends", "(IIII)I"⟩
abbrev cX5_pass : ByteArray := prog_7_method_15_code
def yX5_pass : MethodName := ⟨RX5, "pass", "(III)V"⟩
abbrev cX5_canRepay : ByteArray := prog_7_method_16_code
def yX5_canRepay : MethodName := ⟨RX5, "canRepay", "(I)Z"⟩
abbrev cX5_payBack : ByteArray := prog_7_method_17_code
def yX5_payBack : MethodName := ⟨RX5, "payBack", "(I)V"⟩
abbrev cX5_drop : ByteArray := prog_7_method_18_code
def yX5_drop : MethodName := ⟨RX5, "drop", "(I)V"⟩
abbrev cX5_passNight : ByteArray := prog_7_method_19_code
def yX5_passNight : MethodName := ⟨RX5, "passNight", "()I"⟩
abbrev cX5_passNights : ByteArray := prog_7_method_20_code
def yX5_passNights : MethodName := ⟨RX5, "passNights", "(I)I"⟩
abbrev cX5_failedIn : ByteArray := prog_7_method_21_code
def yX5_failedIn : MethodName := ⟨RX5, "failedIn", "(I)I"⟩
abbrev cX5_passSnow : ByteArray := prog_7_method_22_code
def yX5_passSnow : MethodName := ⟨RX5, "passSnow", "(II)I"⟩
abbrev cX5_grow : ByteArray := prog_7_method_23_code
def yX5_grow : MethodName := ⟨RX5, "grow", "(I)V"⟩
abbrev cX5_endDueLoans : ByteArray := prog_7_method_24_code
def yX5_endDueLoans : MethodName := ⟨RX5, "endDueLoans", "()I"⟩
abbrev cX5_warm : ByteArray := prog_7_method_25_code
def yX5_warm : MethodName := ⟨RX5, "warm", "(I)V"⟩
abbrev cX5_says : ByteArray := prog_7_method_26_code
def yX5_says : MethodName := ⟨RX5, "says", "(III)I"⟩
def RX6 : String := "CoalIsLent"
def TX6 : u_T := fun k => match k with
  | 0 => ("CoalIsLent", "texts", "LCoalIsLent$Texts;", true)
  | 1 => ("CoalIsLent", "tape", "LCoalIsLent$Reader;", true)
  | 2 => ("CoalIsLent", "now", "LCoalIsLent$World;", true)
  | 3 => ("CoalIsLent", "thought", "LCoalIsLent$World;", true)
  | 4 => ("CoalIsLent", "kept", "LCoalIsLent$World;", true)
  | 5 => ("CoalIsLent", "sheets", "LCoalIsLent$Sheets;", true)
  | 6 => ("CoalIsLent", "nets", "[I", true)
  | _ => ("CoalIsLent", "isKept", "Z", false)
def tyX6 : Nat → FieldType := fun k => match k with
  | 0 => .object "CoalIsLent$Texts"
  | 1 => .object "CoalIsLent$Reader"
  | 2 => .object "CoalIsLent$World"
  | 3 => .object "CoalIsLent$World"
  | 4 => .object "CoalIsLent$World"
  | 5 => .object "CoalIsLent$Sheets"
  | 6 => .array .int
  | _ => .boolean
abbrev wsX60 : List Cond := u_ws RX6 TX6 8
theorem nmX6 : ∀ a, a < 8 → ∀ b, b < 8 → a ≠ b → (TX6 a).2.1 ≠ (TX6 b).2.1 := by decide +kernel
theorem tyX6_ok : ∀ k, k < 8 → parseFieldDescriptor (TX6 k).2.2.1 = some (tyX6 k) := by decide +kernel
abbrev cX6_init : ByteArray := prog_1_method_1_code
def yX6_init : MethodName := ⟨RX6, "<init>", "()V"⟩
abbrev cX6_count : ByteArray := prog_1_method_2_code
def yX6_count : MethodName := ⟨RX6, "count", "(I)I"⟩
abbrev cX6_feed : ByteArray := prog_1_method_3_code
def yX6_feed : MethodName := ⟨RX6, "feed", "(IIIIII)I"⟩
abbrev cX6_text : ByteArray := prog_1_method_4_code
def yX6_text : MethodName := ⟨RX6, "text", "()I"⟩
abbrev cX6_force : ByteArray := prog_1_method_5_code
def yX6_force : MethodName := ⟨RX6, "force", "(I)I"⟩
abbrev cX6_asks : ByteArray := prog_1_method_6_code
def yX6_asks : MethodName := ⟨RX6, "asks", "(III)I"⟩
abbrev cX6_hut : ByteArray := prog_1_method_7_code
def yX6_hut : MethodName := ⟨RX6, "hut", "(II)I"⟩
abbrev cX6_put : ByteArray := prog_1_method_8_code
def yX6_put : MethodName := ⟨RX6, "put", "(III)I"⟩
abbrev cX6_told : ByteArray := prog_1_method_9_code
def yX6_told : MethodName := ⟨RX6, "told", "(II)I"⟩
abbrev cX6_lend : ByteArray := prog_1_method_10_code
def yX6_lend : MethodName := ⟨RX6, "lend", "(II)I"⟩
abbrev cX6_loan : ByteArray := prog_1_method_11_code
def yX6_loan : MethodName := ⟨RX6, "loan", "(II)I"⟩
abbrev cX6_repay : ByteArray := prog_1_method_12_code
def yX6_repay : MethodName := ⟨RX6, "repay", "(I)I"⟩
abbrev cX6_forgive : ByteArray := prog_1_method_13_code
def yX6_forgive : MethodName := ⟨RX6, "forgive", "(I)I"⟩
abbrev cX6_night : ByteArray := prog_1_method_14_code
def yX6_night : MethodName := ⟨RX6, "night", "()I"⟩
abbrev cX6_run : ByteArray := prog_1_method_15_code
def yX6_run : MethodName := ⟨RX6, "run", "(II)I"⟩
abbrev cX6_lasts : ByteArray := prog_1_method_16_code
def yX6_lasts : MethodName := ⟨RX6, "lasts", "(II)I"⟩
abbrev cX6_nightsToFailing : ByteArray := prog_1_method_17_code
def yX6_nightsToFailing : MethodName := ⟨RX6, "nightsToFailing", "(I)I"⟩
abbrev cX6_nightsToNoHeat : ByteArray := prog_1_method_18_code
def yX6_nightsToNoHeat : MethodName := ⟨RX6, "nightsToNoHeat", "(I)I"⟩
abbrev cX6_net : ByteArray := prog_1_method_19_code
def yX6_net : MethodName := ⟨RX6, "net", "(I)I"⟩
abbrev cX6_settle : ByteArray := prog_1_method_20_code
def yX6_settle : MethodName := ⟨RX6, "settle", "(I)I"⟩
abbrev cX6_payOnce : ByteArray := prog_1_method_21_code
def yX6_payOnce : MethodName := ⟨RX6, "payOnce", "()I"⟩
abbrev cX6_source : ByteArray := prog_1_method_22_code
def yX6_source : MethodName := ⟨RX6, "source", "(I)I"⟩
abbrev cX6_rings : ByteArray := prog_1_method_23_code
def yX6_rings : MethodName := ⟨RX6, "rings", "(I)I"⟩
abbrev cX6_ask : ByteArray := prog_1_method_24_code
def yX6_ask : MethodName := ⟨RX6, "ask", "(III)I"⟩
abbrev cX6_heatIfLent : ByteArray := prog_1_method_25_code
def yX6_heatIfLent : MethodName := ⟨RX6, "heatIfLent", "(III)I"⟩
abbrev cX6_needs : ByteArray := prog_1_method_26_code
def yX6_needs : MethodName := ⟨RX6, "needs", "(II)I"⟩
abbrev cX6_mercy : ByteArray := prog_1_method_27_code
def yX6_mercy : MethodName := ⟨RX6, "mercy", "(II)I"⟩
abbrev cX6_worst : ByteArray := prog_1_method_28_code
def yX6_worst : MethodName := ⟨RX6, "worst", "(II)I"⟩
abbrev cX6_heatOfOthersWithout : ByteArray := prog_1_method_29_code
def yX6_heatOfOthersWithout : MethodName := ⟨RX6, "heatOfOthersWithout", "(II)I"⟩
abbrev cX6_judge : ByteArray := prog_1_method_30_code
def yX6_judge : MethodName := ⟨RX6, "judge", "(II)I"⟩
abbrev cX6_kinds : ByteArray := prog_1_method_31_code
def yX6_kinds : MethodName := ⟨RX6, "kinds", "(III)I"⟩
abbrev cX6_states : ByteArray := prog_1_method_32_code
def yX6_states : MethodName := ⟨RX6, "states", "(IIII)I"⟩
abbrev cX6_whose : ByteArray := prog_1_method_33_code
def yX6_whose : MethodName := ⟨RX6, "whose", "(I)I"⟩
abbrev cX6_laws : ByteArray := prog_1_method_34_code
def yX6_laws : MethodName := ⟨RX6, "laws", "(II)I"⟩
abbrev cX6_film : ByteArray := prog_1_method_35_code
def yX6_film : MethodName := ⟨RX6, "film", "(III)I"⟩
abbrev cX6_firstOtherwise : ByteArray := prog_1_method_36_code
def yX6_firstOtherwise : MethodName := ⟨RX6, "firstOtherwise", "(ILCoalIsLent$World;I)I"⟩
abbrev cX6_isTold : ByteArray := prog_1_method_37_code
def yX6_isTold : MethodName := ⟨RX6, "isTold", "(ILCoalIsLent$World;I)Z"⟩
abbrev cX6_toldRefusal : ByteArray := prog_1_method_38_code
def yX6_toldRefusal : MethodName := ⟨RX6, "toldRefusal", "(I)I"⟩
abbrev cX6_judgeRefusal : ByteArray := prog_1_method_39_code
def yX6_judgeRefusal : MethodName := ⟨RX6, "judgeRefusal", "(II)I"⟩
abbrev cX6_drawn : ByteArray := prog_1_method_40_code
def yX6_drawn : MethodName := ⟨RX6, "drawn", "(III)I"⟩
abbrev cX6_odds : ByteArray := prog_1_method_41_code
def yX6_odds : MethodName := ⟨RX6, "odds", "(IIIII)J"⟩
abbrev cX6_greatestShared : ByteArray := prog_1_method_42_code
def yX6_greatestShared : MethodName := ⟨RX6, "greatestShared", "(II)I"⟩
abbrev cX6_image : ByteArray := prog_1_method_43_code
def yX6_image : MethodName := ⟨RX6, "image", "()I"⟩
abbrev cX6_back : ByteArray := prog_1_method_44_code
def yX6_back : MethodName := ⟨RX6, "back", "()I"⟩
abbrev cX6_sheet : ByteArray := prog_1_method_45_code
def yX6_sheet : MethodName := ⟨RX6, "sheet", "(III)I"⟩
abbrev cX6_cell : ByteArray := prog_1_method_46_code
def yX6_cell : MethodName := ⟨RX6, "cell", "(III)I"⟩
abbrev cX6_copy : ByteArray := prog_1_method_47_code
def yX6_copy : MethodName := ⟨RX6, "copy", "(IIIII)I"⟩
abbrev cX6_hutsBy : ByteArray := prog_1_method_48_code
def yX6_hutsBy : MethodName := ⟨RX6, "hutsBy", "(IIII)I"⟩
abbrev cX6_taken : ByteArray := prog_1_method_49_code
def yX6_taken : MethodName := ⟨RX6, "taken", "(II)I"⟩
abbrev cX6_think : ByteArray := prog_1_method_50_code
def yX6_think : MethodName := ⟨RX6, "think", "()LCoalIsLent$World;"⟩
abbrev cX6_isFromTo : ByteArray := prog_1_method_51_code
def yX6_isFromTo : MethodName := ⟨RX6, "isFromTo", "(III)Z"⟩
abbrev cX6_isByte : ByteArray := prog_1_method_52_code
def yX6_isByte : MethodName := ⟨RX6, "isByte", "(I)Z"⟩
abbrev cX6_isCoalNights : ByteArray := prog_1_method_53_code
def yX6_isCoalNights : MethodName := ⟨RX6, "isCoalNights", "(II)Z"⟩
abbrev cX6_isSnow : ByteArray := prog_1_method_54_code
def yX6_isSnow : MethodName := ⟨RX6, "isSnow", "(II)Z"⟩
abbrev cX6_has : ByteArray := prog_1_method_55_code
def yX6_has : MethodName := ⟨RX6, "has", "(II)Z"⟩
abbrev cX6_mostOf : ByteArray := prog_1_method_56_code
def yX6_mostOf : MethodName := ⟨RX6, "mostOf", "(I)I"⟩
def RX7 : String := "CoalIsLentModel"
def TX7 : u_T := fun k => match k with
  | 0 => ("CoalIsLentModel", "huts", "I", false)
  | 1 => ("CoalIsLentModel", "kind", "[I", true)
  | 2 => ("CoalIsLentModel", "moreOf", "[I", true)
  | 3 => ("CoalIsLentModel", "rows", "[I", true)
  | 4 => ("CoalIsLentModel", "lender", "[I", true)
  | 5 => ("CoalIsLentModel", "ower", "[I", true)
  | 6 => ("CoalIsLentModel", "coals", "[I", true)
  | 7 => ("CoalIsLentModel", "dues", "[I", true)
  | 8 => ("CoalIsLentModel", "loans", "I", false)
  | 9 => ("CoalIsLentModel", "nights", "I", false)
  | 10 => ("CoalIsLentModel", "tape", "[I", true)
  | 11 => ("CoalIsLentModel", "taped", "I", false)
  | 12 => ("CoalIsLentModel", "codes", "[I", true)
  | 13 => ("CoalIsLentModel", "starts", "[I", true)
  | 14 => ("CoalIsLentModel", "texts", "I", false)
  | 15 => ("CoalIsLentModel", "rule", "I", false)
  | 16 => ("CoalIsLentModel", "hasImage", "Z", false)
  | 17 => ("CoalIsLentModel", "imageRows", "[I", true)
  | 18 => ("CoalIsLentModel", "imageHeld", "[I", true)
  | 19 => ("CoalIsLentModel", "sheetSort", "[I", true)
  | 20 => ("CoalIsLentModel", "sheetSize", "[I", true)
  | 21 => ("CoalIsLentModel", "cells", "[I", true)
  | 22 => ("CoalIsLentModel", "law", "[I", true)
  | 23 => ("CoalIsLentModel", "at", "I", false)
  | 24 => ("CoalIsLentModel", "begun", "I", false)
  | 25 => ("CoalIsLentModel", "token", "I", false)
  | 26 => ("CoalIsLentModel", "value", "I", false)
  | 27 => ("CoalIsLentModel", "words", "[I", true)
  | 28 => ("CoalIsLentModel", "held", "[I", true)
  | 29 => ("CoalIsLentModel", "heldMany", "I", false)
  | 30 => ("CoalIsLentModel", "opens", "I", false)
  | 31 => ("CoalIsLentModel", "out", "I", false)
  | 32 => ("CoalIsLentModel", "stack", "[I", true)
  | 33 => ("CoalIsLentModel", "named", "[I", true)
  | 34 => ("CoalIsLentModel", "kept", "[I", true)
  | 35 => ("CoalIsLentModel", "nets", "[I", true)
  | _ => ("CoalIsLentModel", "heatThen", "I", false)
def tyX7 : Nat → FieldType := fun k => match k with
  | 0 => .int
  | 1 => .array .int
  | 2 => .array .int
  | 3 => .array .int
  | 4 => .array .int
  | 5 => .array .int
  | 6 => .array .int
  | 7 => .array .int
  | 8 => .int
  | 9 => .int
  | 10 => .array .int
  | 11 => .int
  | 12 => .array .int
  | 13 => .array .int
  | 14 => .int
  | 15 => .int
  | 16 => .boolean
  | 17 => .array .int
  | 18 => .array .int
  | 19 => .array .int
  | 20 => .array .int
  | 21 => .array .int
  | 22 => .array .int
  | 23 => .int
  | 24 => .int
  | 25 => .int
  | 26 => .int
  | 27 => .array .int
  | 28 => .array .int
  | 29 => .int
  | 30 => .int
  | 31 => .int
  | 32 => .array .int
  | 33 => .array .int
  | 34 => .array .int
  | 35 => .array .int
  | _ => .int
abbrev wsX70 : List Cond := u_ws RX7 TX7 37
theorem nmX7 : ∀ a, a < 37 → ∀ b, b < 37 → a ≠ b → (TX7 a).2.1 ≠ (TX7 b).2.1 := by decide +kernel
theorem tyX7_ok : ∀ k, k < 37 → parseFieldDescriptor (TX7 k).2.2.1 = some (tyX7 k) := by decide +kernel
abbrev cX7_init : ByteArray := prog_9_method_1_code
def yX7_init : MethodName := ⟨RX7, "<init>", "()V"⟩
abbrev cX7_in : ByteArray := prog_9_method_3_code
def yX7_in : MethodName := ⟨RX7, "in", "(III)Z"⟩
abbrev cX7_within : ByteArray := prog_9_method_4_code
def yX7_within : MethodName := ⟨RX7, "within", "(III)I"⟩
abbrev cX7_isHut : ByteArray := prog_9_method_5_code
def yX7_isHut : MethodName := ⟨RX7, "isHut", "(I)Z"⟩
abbrev cX7_isLoan : ByteArray := prog_9_method_6_code
def yX7_isLoan : MethodName := ⟨RX7, "isLoan", "(I)Z"⟩
abbrev cX7_owedBy : ByteArray := prog_9_method_7_code
def yX7_owedBy : MethodName := ⟨RX7, "owedBy", "(I)I"⟩
abbrev cX7_owedTo : ByteArray := prog_9_method_8_code
def yX7_owedTo : MethodName := ⟨RX7, "owedTo", "(I)I"⟩
abbrev cX7_lentBy : ByteArray := prog_9_method_9_code
def yX7_lentBy : MethodName := ⟨RX7, "lentBy", "(I)I"⟩
abbrev cX7_heatAll : ByteArray := prog_9_method_10_code
def yX7_heatAll : MethodName := ⟨RX7, "heatAll", "()I"⟩
abbrev cX7_count : ByteArray := prog_9_method_11_code
def yX7_count : MethodName := ⟨RX7, "count", "(I)I"⟩
abbrev cX7_isByte : ByteArray := prog_9_method_12_code
def yX7_isByte : MethodName := ⟨RX7, "isByte", "(I)Z"⟩
abbrev cX7_feed : ByteArray := prog_9_method_13_code
def yX7_feed : MethodName := ⟨RX7, "feed", "(IIIIII)I"⟩
abbrev cX7_wordFrom : ByteArray := prog_9_method_14_code
def yX7_wordFrom : MethodName := ⟨RX7, "wordFrom", "(II)I"⟩
abbrev cX7_next : ByteArray := prog_9_method_15_code
def yX7_next : MethodName := ⟨RX7, "next", "()V"⟩
abbrev cX7_rank : ByteArray := prog_9_method_16_code
def yX7_rank : MethodName := ⟨RX7, "rank", "(I)I"⟩
abbrev cX7_puts : ByteArray := prog_9_method_17_code
def yX7_puts : MethodName := ⟨RX7, "puts", "(I)V"⟩
abbrev cX7_unwinds : ByteArray := prog_9_method_18_code
def yX7_unwinds : MethodName := ⟨RX7, "unwinds", "(I)V"⟩
abbrev cX7_holds : ByteArray := prog_9_method_19_code
def yX7_holds : MethodName := ⟨RX7, "holds", "(I)V"⟩
abbrev cX7_opensOne : ByteArray := prog_9_method_20_code
def yX7_opensOne : MethodName := ⟨RX7, "opensOne", "(I)Z"⟩
abbrev cX7_between : ByteArray := prog_9_method_21_code
def yX7_between : MethodName := ⟨RX7, "between", "(I)Z"⟩
abbrev cX7_signOf : ByteArray := prog_9_method_22_code
def yX7_signOf : MethodName := ⟨RX7, "signOf", "()I"⟩
abbrev cX7_eRead : ByteArray := prog_9_method_23_code
def yX7_eRead : MethodName := ⟨RX7, "eRead", "()Z"⟩
abbrev cX7_text : ByteArray := prog_9_method_24_code
def yX7_text : MethodName := ⟨RX7, "text", "()I"⟩
abbrev cX7_two : ByteArray := prog_9_method_25_code
def yX7_two : MethodName := ⟨RX7, "two", "(III)I"⟩
abbrev cX7_says : ByteArray := prog_9_method_26_code
def yX7_says : MethodName := ⟨RX7, "says", "(I)I"⟩
abbrev cX7_force : ByteArray := prog_9_method_27_code
def yX7_force : MethodName := ⟨RX7, "force", "(I)I"⟩
abbrev cX7_asksOf : ByteArray := prog_9_method_28_code
def yX7_asksOf : MethodName := ⟨RX7, "asksOf", "(III)I"⟩
abbrev cX7_asks : ByteArray := prog_9_method_29_code
def yX7_asks : MethodName := ⟨RX7, "asks", "(III)I"⟩
abbrev cX7_hut : ByteArray := prog_9_method_30_code
def yX7_hut : MethodName := ⟨RX7, "hut", "(II)I"⟩
abbrev cX7_put : ByteArray := prog_9_method_31_code
def yX7_put : MethodName := ⟨RX7, "put", "(III)I"⟩
abbrev cX7_told : ByteArray := prog_9_method_32_code
def yX7_told : MethodName := ⟨RX7, "told", "(II)I"⟩
abbrev cX7_areCoalNights : ByteArray := prog_9_method_33_code
def yX7_areCoalNights : MethodName := ⟨RX7, "areCoalNights", "(I)Z"⟩
abbrev cX7_mayLend : ByteArray := prog_9_method_34_code
def yX7_mayLend : MethodName := ⟨RX7, "mayLend", "(II)Z"⟩
abbrev cX7_moves : ByteArray := prog_9_method_35_code
def yX7_moves : MethodName := ⟨RX7, "moves", "(III)V"⟩
abbrev cX7_lends : ByteArray := prog_9_method_36_code
def yX7_lends : MethodName := ⟨RX7, "lends", "(III)V"⟩
abbrev cX7_lend : ByteArray := prog_9_method_37_code
def yX7_lend : MethodName := ⟨RX7, "lend", "(II)I"⟩
abbrev cX7_loan : ByteArray := prog_9_method_38_code
def yX7_loan : MethodName := ⟨RX7, "loan", "(II)I"⟩
abbrev cX7_drops : ByteArray := prog_9_method_39_code
def yX7_drops : MethodName := ⟨RX7, "drops", "(I)V"⟩
abbrev cX7_repay : ByteArray := prog_9_method_40_code
def yX7_repay : MethodName := ⟨RX7, "repay", "(I)I"⟩
abbrev cX7_forgive : ByteArray := prog_9_method_41_code
def yX7_forgive : MethodName := ⟨RX7, "forgive", "(I)I"⟩
abbrev cX7_growsOf : ByteArray := prog_9_method_42_code
def yX7_growsOf : MethodName := ⟨RX7, "growsOf", "(II)I"⟩
abbrev cX7_coolsOf : ByteArray := prog_9_method_43_code
def yX7_coolsOf : MethodName := ⟨RX7, "coolsOf", "(I)I"⟩
abbrev cX7_burnsOf : ByteArray := prog_9_method_44_code
def yX7_burnsOf : MethodName := ⟨RX7, "burnsOf", "(I)I"⟩
abbrev cX7_hearth : ByteArray := prog_9_method_45_code
def yX7_hearth : MethodName := ⟨RX7, "hearth", "(I)V"⟩
abbrev cX7_nightOf : ByteArray := prog_9_method_46_code
def yX7_nightOf : MethodName := ⟨RX7, "nightOf", "()I"⟩
abbrev cX7_night : ByteArray := prog_9_method_47_code
def yX7_night : MethodName := ⟨RX7, "night", "()I"⟩
abbrev cX7_keeps : ByteArray := prog_9_method_48_code
def yX7_keeps : MethodName := ⟨RX7, "keeps", "()V"⟩
abbrev cX7_lays : ByteArray := prog_9_method_49_code
def yX7_lays : MethodName := ⟨RX7, "lays", "()V"⟩
abbrev cX7_goes : ByteArray := prog_9_method_50_code
def yX7_goes : MethodName := ⟨RX7, "goes", "(I)I"⟩
abbrev cX7_ones : ByteArray := prog_9_method_51_code
def yX7_ones : MethodName := ⟨RX7, "ones", "(I)I"⟩
abbrev cX7_run : ByteArray := prog_9_method_52_code
def yX7_run : MethodName := ⟨RX7, "run", "(II)I"⟩
abbrev cX7_lasts : ByteArray := prog_9_method_53_code
def yX7_lasts : MethodName := ⟨RX7, "lasts", "(II)I"⟩
abbrev cX7_net : ByteArray := prog_9_method_54_code
def yX7_net : MethodName := ⟨RX7, "net", "(I)I"⟩
abbrev cX7_settle : ByteArray := prog_9_method_55_code
def yX7_settle : MethodName := ⟨RX7, "settle", "(I)I"⟩
abbrev cX7_sourceOf : ByteArray := prog_9_method_56_code
def yX7_sourceOf : MethodName := ⟨RX7, "sourceOf", "(I)I"⟩
abbrev cX7_source : ByteArray := prog_9_method_57_code
def yX7_source : MethodName := ⟨RX7, "source", "(I)I"⟩
abbrev cX7_rings : ByteArray := prog_9_method_58_code
def yX7_rings : MethodName := ⟨RX7, "rings", "(I)I"⟩
abbrev cX7_ask : ByteArray := prog_9_method_59_code
def yX7_ask : MethodName := ⟨RX7, "ask", "(III)I"⟩
abbrev cX7_needs : ByteArray := prog_9_method_60_code
def yX7_needs : MethodName := ⟨RX7, "needs", "(II)I"⟩
abbrev cX7_failsBut : ByteArray := prog_9_method_61_code
def yX7_failsBut : MethodName := ⟨RX7, "failsBut", "(II)I"⟩
abbrev cX7_mercy : ByteArray := prog_9_method_62_code
def yX7_mercy : MethodName := ⟨RX7, "mercy", "(II)I"⟩
abbrev cX7_worst : ByteArray := prog_9_method_63_code
def yX7_worst : MethodName := ⟨RX7, "worst", "(II)I"⟩
abbrev cX7_sheetWrong : ByteArray := prog_9_method_64_code
def yX7_sheetWrong : MethodName := ⟨RX7, "sheetWrong", "(I)I"⟩
abbrev cX7_toldWrong : ByteArray := prog_9_method_65_code
def yX7_toldWrong : MethodName := ⟨RX7, "toldWrong", "(II)I"⟩
abbrev cX7_unlike : ByteArray := prog_9_method_66_code
def yX7_unlike : MethodName := ⟨RX7, "unlike", "(II)I"⟩
abbrev cX7_judge : ByteArray := prog_9_method_67_code
def yX7_judge : MethodName := ⟨RX7, "judge", "(II)I"⟩
abbrev cX7_kinds : ByteArray := prog_9_method_68_code
def yX7_kinds : MethodName := ⟨RX7, "kinds", "(III)I"⟩
abbrev cX7_states : ByteArray := prog_9_method_69_code
def yX7_states : MethodName := ⟨RX7, "states", "(IIII)I"⟩
abbrev cX7_whose : ByteArray := prog_9_method_70_code
def yX7_whose : MethodName := ⟨RX7, "whose", "(I)I"⟩
abbrev cX7_laws : ByteArray := prog_9_method_71_code
def yX7_laws : MethodName := ⟨RX7, "laws", "(II)I"⟩
abbrev cX7_film : ByteArray := prog_9_method_72_code
def yX7_film : MethodName := ⟨RX7, "film", "(III)I"⟩
abbrev cX7_snows : ByteArray := prog_9_method_73_code
def yX7_snows : MethodName := ⟨RX7, "snows", "(II)I"⟩
abbrev cX7_drawn : ByteArray := prog_9_method_74_code
def yX7_drawn : MethodName := ⟨RX7, "drawn", "(III)I"⟩
abbrev cX7_lowest : ByteArray := prog_9_method_75_code
def yX7_lowest : MethodName := ⟨RX7, "lowest", "(JJI)J"⟩
abbrev cX7_odds : ByteArray := prog_9_method_76_code
def yX7_odds : MethodName := ⟨RX7, "odds", "(IIIII)J"⟩
abbrev cX7_image : ByteArray := prog_9_method_77_code
def yX7_image : MethodName := ⟨RX7, "image", "()I"⟩
abbrev cX7_back : ByteArray := prog_9_method_78_code
def yX7_back : MethodName := ⟨RX7, "back", "()I"⟩
abbrev cX7_sheet : ByteArray := prog_9_method_79_code
def yX7_sheet : MethodName := ⟨RX7, "sheet", "(III)I"⟩
abbrev cX7_cell : ByteArray := prog_9_method_80_code
def yX7_cell : MethodName := ⟨RX7, "cell", "(III)I"⟩
abbrev cX7_copy : ByteArray := prog_9_method_81_code
def yX7_copy : MethodName := ⟨RX7, "copy", "(IIIII)I"⟩
abbrev cX7_hutsBy : ByteArray := prog_9_method_82_code
def yX7_hutsBy : MethodName := ⟨RX7, "hutsBy", "(IIII)I"⟩
abbrev cX7_isUnder : ByteArray := prog_9_method_83_code
def yX7_isUnder : MethodName := ⟨RX7, "isUnder", "(II)Z"⟩
abbrev cX7_taken : ByteArray := prog_9_method_84_code
def yX7_taken : MethodName := ⟨RX7, "taken", "(II)I"⟩
def RJ6 : String := "java/lang/Integer"
def TJ6 : u_T := fun k => match k with
  | _ => ("", "", "", false)
def tyJ6 : Nat → FieldType := fun k => match k with
  | _ => .int
abbrev wsJ60 : List Cond := u_ws RJ6 TJ6 0
theorem nmJ6 : ∀ a, a < 0 → ∀ b, b < 0 → a ≠ b → (TJ6 a).2.1 ≠ (TJ6 b).2.1 := by decide +kernel
theorem tyJ6_ok : ∀ k, k < 0 → parseFieldDescriptor (TJ6 k).2.2.1 = some (tyJ6 k) := by decide +kernel
abbrev cJ6_bitCount_0f7a4 : ByteArray := prog_10_method_49_code
def yJ6_bitCount_0f7a4 : MethodName := ⟨RJ6, "bitCount", "(I)I"⟩
def RJ9 : String := "java/lang/Math"
def TJ9 : u_T := fun k => match k with
  | _ => ("", "", "", false)
def tyJ9 : Nat → FieldType := fun k => match k with
  | _ => .int
abbrev wsJ90 : List Cond := u_ws RJ9 TJ9 0
theorem nmJ9 : ∀ a, a < 0 → ∀ b, b < 0 → a ≠ b → (TJ9 a).2.1 ≠ (TJ9 b).2.1 := by decide +kernel
theorem tyJ9_ok : ∀ k, k < 0 → parseFieldDescriptor (TJ9 k).2.2.1 = some (tyJ9 k) := by decide +kernel
abbrev cJ9_max_7cf53 : ByteArray := prog_11_method_65_code
def yJ9_max_7cf53 : MethodName := ⟨RJ9, "max", "(II)I"⟩
abbrev cJ9_min_7cf53 : ByteArray := prog_11_method_69_code
def yJ9_min_7cf53 : MethodName := ⟨RJ9, "min", "(II)I"⟩
def RJ0 : String := "java/lang/String"
def TJ0 : u_T := fun k => match k with
  | _ => ("", "", "", false)
def tyJ0 : Nat → FieldType := fun k => match k with
  | _ => .int
abbrev wsJ00 : List Cond := u_ws RJ0 TJ0 0
theorem nmJ0 : ∀ a, a < 0 → ∀ b, b < 0 → a ≠ b → (TJ0 a).2.1 ≠ (TJ0 b).2.1 := by decide +kernel
theorem tyJ0_ok : ∀ k, k < 0 → parseFieldDescriptor (TJ0 k).2.2.1 = some (tyJ0 k) := by decide +kernel
abbrev cJ0_length_8abf5 : ByteArray := prog_12_method_54_code
def yJ0_length_8abf5 : MethodName := ⟨RJ0, "length", "()I"⟩
abbrev cJ0_charAt_5068e : ByteArray := prog_12_method_56_code
def yJ0_charAt_5068e : MethodName := ⟨RJ0, "charAt", "(I)C"⟩
abbrev cJ0_coder_7d493 : ByteArray := prog_12_method_152_code
def yJ0_coder_7d493 : MethodName := ⟨RJ0, "coder", "()B"⟩
abbrev cJ0_isLatin1_aae02 : ByteArray := prog_12_method_154_code
def yJ0_isLatin1_aae02 : MethodName := ⟨RJ0, "isLatin1", "()Z"⟩
abbrev cJ0_checkIndex_df160 : ByteArray := prog_12_method_155_code
def yJ0_checkIndex_df160 : MethodName := ⟨RJ0, "checkIndex", "(II)V"⟩
def RJ1 : String := "java/lang/StringLatin1"
def TJ1 : u_T := fun k => match k with
  | _ => ("", "", "", false)
def tyJ1 : Nat → FieldType := fun k => match k with
  | _ => .int
abbrev wsJ10 : List Cond := u_ws RJ1 TJ1 0
theorem nmJ1 : ∀ a, a < 0 → ∀ b, b < 0 → a ≠ b → (TJ1 a).2.1 ≠ (TJ1 b).2.1 := by decide +kernel
theorem tyJ1_ok : ∀ k, k < 0 → parseFieldDescriptor (TJ1 k).2.2.1 = some (tyJ1 k) := by decide +kernel
abbrev cJ1_charAt_3b067 : ByteArray := prog_13_method_2_code
def yJ1_charAt_3b067 : MethodName := ⟨RJ1, "charAt", "([BI)C"⟩
def RJ2 : String := "java/lang/StringUTF16"
def TJ2 : u_T := fun k => match k with
  | _ => ("", "", "", false)
def tyJ2 : Nat → FieldType := fun k => match k with
  | _ => .int
abbrev wsJ20 : List Cond := u_ws RJ2 TJ2 0
theorem nmJ2 : ∀ a, a < 0 → ∀ b, b < 0 → a ≠ b → (TJ2 a).2.1 ≠ (TJ2 b).2.1 := by decide +kernel
theorem tyJ2_ok : ∀ k, k < 0 → parseFieldDescriptor (TJ2 k).2.2.1 = some (tyJ2 k) := by decide +kernel
abbrev cJ2_getChar_3b067 : ByteArray := prog_14_method_5_code
def yJ2_getChar_3b067 : MethodName := ⟨RJ2, "getChar", "([BI)C"⟩
abbrev cJ2_length_9d52b : ByteArray := prog_14_method_6_code
def yJ2_length_9d52b : MethodName := ⟨RJ2, "length", "([B)I"⟩
abbrev cJ2_charAt_3b067 : ByteArray := prog_14_method_83_code
def yJ2_charAt_3b067 : MethodName := ⟨RJ2, "charAt", "([BI)C"⟩
abbrev cJ2_checkIndex_2214a : ByteArray := prog_14_method_91_code
def yJ2_checkIndex_2214a : MethodName := ⟨RJ2, "checkIndex", "(I[B)V"⟩
def RJ10 : String := "java/lang/System"
def TJ10 : u_T := fun k => match k with
  | _ => ("", "", "", false)
def tyJ10 : Nat → FieldType := fun k => match k with
  | _ => .int
abbrev wsJ100 : List Cond := u_ws RJ10 TJ10 0
theorem nmJ10 : ∀ a, a < 0 → ∀ b, b < 0 → a ≠ b → (TJ10 a).2.1 ≠ (TJ10 b).2.1 := by decide +kernel
theorem tyJ10_ok : ∀ k, k < 0 → parseFieldDescriptor (TJ10 k).2.2.1 = some (tyJ10 k) := by decide +kernel
def RJ3 : String := "jdk/internal/util/Preconditions"
def TJ3 : u_T := fun k => match k with
  | _ => ("", "", "", false)
def tyJ3 : Nat → FieldType := fun k => match k with
  | _ => .int
abbrev wsJ30 : List Cond := u_ws RJ3 TJ3 0
theorem nmJ3 : ∀ a, a < 0 → ∀ b, b < 0 → a ≠ b → (TJ3 a).2.1 ≠ (TJ3 b).2.1 := by decide +kernel
theorem tyJ3_ok : ∀ k, k < 0 → parseFieldDescriptor (TJ3 k).2.2.1 = some (tyJ3 k) := by decide +kernel
abbrev cJ3_checkIndex_8e157 : ByteArray := prog_16_method_11_code
def yJ3_checkIndex_8e157 : MethodName := ⟨RJ3, "checkIndex", "(IILjava/util/function/BiFunction;)I"⟩
def RL : String := "CoalIsLentLaw"
abbrev cL_law : ByteArray := code
def yL_law : MethodName := ⟨RL, "law", "([I)Z"⟩
abbrev vwCl : List vw_C := [(RX2, TX2, 10), (RX3, TX3, 3), (RX4, TX4, 4), (RX5, TX5, 15), (RX6, TX6, 8), (RX7, TX7, 37)]
end
section
-- THE ABSTRACT MACHINE: memory as a function of cell number and place; a layout that says what each cell is; the judgement zG over W
def zW : List Cond := lw_tbl.filter goodWord
theorem zW_good : GoodIn zW zW := fun w h => ⟨h, good_of_word (List.mem_filter.mp h).2⟩
theorem zin {w : Cond} (i : Nat) (h : tables_1[i]? = some w) (g : goodWord w = true) : w ∈ zW := List.mem_filter.mpr ⟨List.mem_append_right _ (List.mem_of_getElem? h), g⟩
theorem zinp {w : Cond} (i : Nat) (h : (k2_sels lw_privs)[i]? = some w) (g : goodWord w = true) : w ∈ zW := List.mem_filter.mpr ⟨List.mem_append_left _ (List.mem_of_getElem? h), g⟩
theorem zW_tbl {args : Array Value} {s : State} (h : ∀ w ∈ lw_tbl, w.before args s = true) : ∀ w ∈ zW, w.before args s = true := fun w hw => h w (List.mem_filter.mp hw).1
abbrev zMem : Type := Nat → Nat → Int32
abbrev zLE : Type := Nat ⊕ (Nat × List (Option (Option Nat)))
abbrev zLay : Type := List zLE
abbrev zLs : Type := List (Option Value)
def zUp (σ : zMem) (a k : Nat) (v : Int32) : zMem := fun x => if x = a then upd (σ a) k v else σ x
def zcv (b : Nat) (ext : Nat → Nat) (a : Nat) : Nat := if a < 1000 then b + a else ext (a - 1000)
def zV (cv : Nat → Nat) (v : Value) : Value := match v with
  | .ref a => .ref (cv a)
  | w => w
def zFV (cv : Nat → Nat) (x : Int32) (t : Option (Option Nat)) : Value := match t with
  | none => .int x
  | some none => .null
  | some (some j) => .ref (cv j)
def zFs (cv : Nat → Nat) (f : Nat → Int32) : Nat → List (Option (Option Nat)) → List Value
  | _, [] => []
  | k, t :: r => zFV cv (f k) t :: zFs cv f (k + 1) r
def zCell (cv : Nat → Nat) (cA : ClassId) (f : Nat → Int32) (e : zLE) : va_E := match e with
  | .inl n => .inl (cA, n, .inl f)
  | .inr o => .inr (o.1, zFs cv f 0 o.2)
def zWs (cv : Nat → Nat) (cA : ClassId) (σ : zMem) : Nat → zLay → va_W
  | _, [] => []
  | a, e :: r => (cv a, zCell cv cA (σ a) e) :: zWs cv cA σ (a + 1) r
theorem zFs_get (cv : Nat → Nat) (f : Nat → Int32) : ∀ (fs : List (Option (Option Nat))) (j k : Nat) (t : Option (Option Nat)), fs[k]? = some t → (zFs cv f j fs)[k]? = some (zFV cv (f (j + k)) t)
  | [], j, k, t, h => by simp at h
  | u :: r, j, 0, t, h => by
    simp only [List.getElem?_cons_zero, Option.some.injEq] at h
    subst h
    simp [zFs]
  | u :: r, j, k + 1, t, h => by
    simp only [List.getElem?_cons_succ] at h
    have h2 := zFs_get cv f r (j + 1) k t h
    simp only [zFs, List.getElem?_cons_succ, h2]
    rw [show j + 1 + k = j + (k + 1) by omega]
theorem zFs_len (cv : Nat → Nat) (f : Nat → Int32) : ∀ (fs : List (Option (Option Nat))) (j : Nat), (zFs cv f j fs).length = fs.length
  | [], j => rfl
  | u :: r, j => by simp [zFs, zFs_len cv f r (j + 1)]
theorem zFs_out (cv : Nat → Nat) (f : Nat → Int32) (v : Int32) (i : Nat) : ∀ (fs : List (Option (Option Nat))) (j : Nat), i < j → zFs cv (upd f i v) j fs = zFs cv f j fs
  | [], j, h => rfl
  | u :: r, j, h => by
    simp only [zFs, zFs_out cv f v i r (j + 1) (by omega)]
    rw [show upd f i v j = f j by simp [upd]; omega]
theorem zFs_setI (cv : Nat → Nat) (f : Nat → Int32) (v : Int32) : ∀ (fs : List (Option (Option Nat))) (j k : Nat), fs[k]? = some none → (zFs cv f j fs).set k (.int v) = zFs cv (upd f (j + k) v) j fs
  | [], j, k, h => by simp at h
  | u :: r, j, 0, h => by
    simp only [List.getElem?_cons_zero, Option.some.injEq] at h
    subst h
    simp only [zFs, List.set_cons_zero, Nat.add_zero]
    rw [zFs_out cv f v j r (j + 1) (by omega)]
    simp [zFV, upd]
  | u :: r, j, k + 1, h => by
    simp only [List.getElem?_cons_succ] at h
    have h2 := zFs_setI cv f v r (j + 1) k h
    simp only [zFs, List.set_cons_succ, h2]
    rw [show j + 1 + k = j + (k + 1) by omega]
    rw [show upd f (j + (k + 1)) v j = f j by simp [upd]]
theorem zFs_setR (cv : Nat → Nat) (f : Nat → Int32) (q : Nat) : ∀ (fs : List (Option (Option Nat))) (j k : Nat), k < fs.length → (zFs cv f j fs).set k (.ref (cv q)) = zFs cv f j (fs.set k (some (some q)))
  | [], j, k, h => by simp at h
  | u :: r, j, 0, h => by simp [zFs, zFV]
  | u :: r, j, k + 1, h => by
    simp only [zFs, List.set_cons_succ, zFs_setR cv f q r (j + 1) k (by simpa using h)]
theorem zWs_get (cv : Nat → Nat) (cA : ClassId) (σ : zMem) : ∀ (Λ : zLay) (j a : Nat) (e : zLE), Λ[a]? = some e → (zWs cv cA σ j Λ)[a]? = some (cv (j + a), zCell cv cA (σ (j + a)) e)
  | [], j, a, e, h => by simp at h
  | u :: r, j, 0, e, h => by
    simp only [List.getElem?_cons_zero, Option.some.injEq] at h
    subst h
    simp [zWs]
  | u :: r, j, a + 1, e, h => by
    simp only [List.getElem?_cons_succ] at h
    have h2 := zWs_get cv cA σ r (j + 1) a e h
    simp only [zWs, List.getElem?_cons_succ, h2]
    rw [show j + 1 + a = j + (a + 1) by omega]
theorem zWs_at {cv : Nat → Nat} {cA : ClassId} {σ : zMem} {Λ : zLay} {a : Nat} {e : zLE} (h : Λ[a]? = some e) : (zWs cv cA σ 0 Λ)[a]? = some (cv a, zCell cv cA (σ a) e) := by
  have := zWs_get cv cA σ Λ 0 a e h
  rwa [Nat.zero_add] at this
theorem zWs_inv (cv : Nat → Nat) (cA : ClassId) (σ : zMem) : ∀ (Λ : zLay) (j a : Nat) (q : Nat × va_E), (zWs cv cA σ j Λ)[a]? = some q → a < Λ.length ∧ q.1 = cv (j + a)
  | [], j, a, q, h => by simp [zWs] at h
  | u :: r, j, 0, q, h => by
    simp only [zWs, List.getElem?_cons_zero, Option.some.injEq] at h
    subst h
    simp
  | u :: r, j, a + 1, q, h => by
    simp only [zWs, List.getElem?_cons_succ] at h
    have h2 := zWs_inv cv cA σ r (j + 1) a q h
    refine ⟨by simp; omega, ?_⟩
    rw [h2.2, show j + 1 + a = j + (a + 1) by omega]
theorem zWs_congr (cv : Nat → Nat) (cA : ClassId) (σ τ : zMem) : ∀ (Λ : zLay) (j : Nat), (∀ a, j ≤ a → a < j + Λ.length → σ a = τ a) → zWs cv cA σ j Λ = zWs cv cA τ j Λ
  | [], j, h => rfl
  | u :: r, j, h => by
    simp only [zWs]
    rw [h j (Nat.le_refl _) (by simp), zWs_congr cv cA σ τ r (j + 1) (fun a h1 h2 => h a (by omega) (by simp; omega))]
theorem zWs_set (cv : Nat → Nat) (cA : ClassId) (σ τ : zMem) (e' : zLE) : ∀ (Λ : zLay) (j a : Nat), a < Λ.length → (∀ x, x ≠ j + a → τ x = σ x) → (zWs cv cA σ j Λ).set a (cv (j + a), zCell cv cA (τ (j + a)) e') = zWs cv cA τ j (Λ.set a e')
  | [], j, a, h, hd => by simp at h
  | u :: r, j, 0, h, hd => by
    simp only [zWs, List.set_cons_zero, Nat.add_zero]
    rw [zWs_congr cv cA σ τ r (j + 1) (fun a h1 h2 => (hd a (by omega)).symm)]
  | u :: r, j, a + 1, h, hd => by
    have h2 := zWs_set cv cA σ τ e' r (j + 1) a (by simpa using h) (fun x hx => hd x (by omega))
    simp only [zWs, List.set_cons_succ]
    rw [show j + 1 + a = j + (a + 1) by omega] at h2
    rw [h2, hd j (by omega)]
theorem zWs_set0 {cv : Nat → Nat} {cA : ClassId} {σ τ : zMem} {e' : zLE} {Λ : zLay} {a : Nat} (h : a < Λ.length) (hd : ∀ x, x ≠ a → τ x = σ x) : (zWs cv cA σ 0 Λ).set a (cv a, zCell cv cA (τ a) e') = zWs cv cA τ 0 (Λ.set a e') := by
  have := zWs_set cv cA σ τ e' Λ 0 a h (fun x hx => hd x (by omega))
  rwa [Nat.zero_add] at this
theorem zWs_app (cv : Nat → Nat) (cA : ClassId) (σ : zMem) (e : zLE) : ∀ (Λ : zLay) (j : Nat), zWs cv cA σ j (Λ ++ [e]) = zWs cv cA σ j Λ ++ [(cv (j + Λ.length), zCell cv cA (σ (j + Λ.length)) e)]
  | [], j => by simp [zWs]
  | u :: r, j => by
    simp only [List.cons_append, zWs, zWs_app cv cA σ e r (j + 1)]
    rw [show j + 1 + r.length = j + (u :: r).length by simp; omega]
theorem zWs_len (cv : Nat → Nat) (cA : ClassId) (σ : zMem) : ∀ (Λ : zLay) (j : Nat), (zWs cv cA σ j Λ).length = Λ.length
  | [], j => rfl
  | u :: r, j => by simp [zWs, zWs_len cv cA σ r (j + 1)]
theorem zset_same {α : Type} : ∀ (l : List α) (a : Nat) (e : α), l[a]? = some e → l.set a e = l
  | [], a, e, h => rfl
  | u :: r, 0, e, h => by
    simp only [List.getElem?_cons_zero, Option.some.injEq] at h
    rw [h]; rfl
  | u :: r, a + 1, e, h => by
    simp only [List.getElem?_cons_succ] at h
    rw [List.set_cons_succ, zset_same r a e h]
theorem zUp_self (σ : zMem) (a k : Nat) (v : Int32) : zUp σ a k v a = upd (σ a) k v := by simp [zUp]
theorem zUp_ne {σ : zMem} {a k x : Nat} {v : Int32} (h : x ≠ a) : zUp σ a k v x = σ x := by simp [zUp, h]
theorem zcv_lt {b : Nat} {ext : Nat → Nat} {a : Nat} (h : a < 1000) : zcv b ext a = b + a := by simp [zcv, h]
-- what is outside: the String constants, statics, the nest's links
def zBy (s : String) : List Int32 := s.toList.map (fun c => (Int32.ofNat c.toNat))
abbrev zStr : List (String × Nat × String) := [("CoalIsLent", 23, "grows 1 + coal < 99 ; cools 2 ; burns 10 ;"), ("CoalIsLent$Reader", 112, "grows"), ("CoalIsLent$Reader", 118, "cools"), ("CoalIsLent$Reader", 120, "burns"), ("CoalIsLent$Reader", 122, "or"), ("CoalIsLent$Reader", 124, "and"), ("CoalIsLent$Reader", 126, "not"), ("CoalIsLent$Reader", 128, "heat"), ("CoalIsLent$Reader", 130, "wood"), ("CoalIsLent$Reader", 132, "night"), ("CoalIsLent$Reader", 134, "coal"), ("CoalIsLent$Reader", 136, "owed"), ("CoalIsLent$Reader", 138, "more")]
def zLen : List Nat := [42, 5, 5, 5, 2, 3, 3, 4, 4, 5, 4, 4, 4]
def zByt : List (List Int32) := [[103, 114, 111, 119, 115, 32, 49, 32, 43, 32, 99, 111, 97, 108, 32, 60, 32, 57, 57, 32, 59, 32, 99, 111, 111, 108, 115, 32, 50, 32, 59, 32, 98, 117, 114, 110, 115, 32, 49, 48, 32, 59], [103, 114, 111, 119, 115], [99, 111, 111, 108, 115], [98, 117, 114, 110, 115], [111, 114], [97, 110, 100], [110, 111, 116], [104, 101, 97, 116], [119, 111, 111, 100], [110, 105, 103, 104, 116], [99, 111, 97, 108], [111, 119, 101, 100], [109, 111, 114, 101]]
def zAb : List Int32 := [-1, 0, 0, 1, 2, 0]
abbrev zNest : List (String × Nat × MethodName × String) := [("CoalIsLent", 9, ⟨"CoalIsLent$Texts", "<init>", "()V"⟩, "CoalIsLent"), ("CoalIsLent", 18, ⟨"CoalIsLent$Reader", "<init>", "()V"⟩, "CoalIsLent"), ("CoalIsLent$Reader", 149, ⟨"CoalIsLent", "isFromTo", "(III)Z"⟩, "CoalIsLent"), ("CoalIsLent", 66, ⟨"CoalIsLent$Sheets", "<init>", "()V"⟩, "CoalIsLent"), ("CoalIsLent$World", 67, ⟨"CoalIsLent", "isFromTo", "(III)Z"⟩, "CoalIsLent"), ("CoalIsLent$World", 76, ⟨"CoalIsLent", "has", "(II)Z"⟩, "CoalIsLent")]
abbrev zA (b : Nat) : Nat → Prop := fun q => b ≤ q
def zExt (b : Nat) (ext : Nat → Nat) (U : State) (H : Heap) : Prop :=
  vk_S 13 zLen zByt (fun i => ext i) (fun i => ext (20 + i)) (zA b) U H ∧ (∀ (i : Nat) (q : String × Nat × String), zStr[i]? = some q → vk_R q.1 q.2.1 q.2.2 (ext i) U) ∧
  va_Z "java/lang/String" "COMPACT_STRINGS" "Z" (.int 1) (zA b) U H ∧
  (va_Z "jdk/internal/util/Preconditions" "SIOOBE_FORMATTER" "Ljava/util/function/BiFunction;" .null (zA b) U H ∨ va_Z "jdk/internal/util/Preconditions" "SIOOBE_FORMATTER" "Ljava/util/function/BiFunction;" (.ref (ext 40)) (zA b) U H) ∧
  (va_Z "CoalIsLent$Kinds" "ABOVE" "[I" (.ref (ext 41)) (zA b) U H ∧ va_T .int (ext 41) 6 (fun j => .int (zAb.getD j 0)) (zA b) U H) ∧
  (∀ (i : Nat) (q : String × Nat × MethodName × String), zNest[i]? = some q → va_Nw (.methodLinkNest q.1 q.2.1 q.2.2.1 q.2.2.2) U)
def zKst (D : va_G) (cA : ClassId) (b : Nat) (ext : Nat → Nat) (U : State) (H : Heap) : Prop := va_K D vwCl [(cA, .int)] U ∧ zExt b ext U H
theorem zKst.go {D : va_G} {cA : ClassId} {b : Nat} {ext : Nat → Nat} {s U : State} {H0 H : Heap} {locs : List Loc} (h : zKst D cA b ext s H0) (hS : va_S (zA b) H0 H locs) (hW : s.WarmedH U.vm) : zKst D cA b ext U H := by
  obtain ⟨hK, h1, h2, h3, h4, ⟨h5, h6⟩, h7⟩ := h
  have hk : ∀ a : Nat, a < H0.size → ¬ zA b a → H[a]? = H0[a]? := hS.2.1
  refine ⟨va_K.moved hW.alike hK, (h1.kept hk).moved hW.alike, fun i q hq => (h2 i q hq).warm hW, (h3.kept hk).moved hW.alike, ?_, ⟨(h5.kept hk).moved hW.alike, (h6.kept hk).moved hW.alike⟩, fun i q hq => va_Nw.warmM hW (h7 i q hq)⟩
  rcases h4 with h4 | h4
  · exact Or.inl ((h4.kept hk).moved hW.alike)
  · exact Or.inr ((h4.kept hk).moved hW.alike)
def zPic (D : va_G) (cA : ClassId) (b : Nat) (ext : Nat → Nat) (Λ : zLay) (σ : zMem) (H : Heap) : Prop := va_P D vwCl (zWs (zcv b ext) cA σ 0 Λ) H ∧ H.size = b + Λ.length ∧ Λ.length ≤ 1000
theorem zPic.D {D : va_G} {cA : ClassId} {b : Nat} {ext : Nat → Nat} {Λ : zLay} {σ : zMem} {H : Heap} (h : zPic D cA b ext Λ σ H) : va_D (zA b) (zWs (zcv b ext) cA σ 0 Λ) := by
  have hx : ∀ (i : Nat) (p : Nat × va_E), (zWs (zcv b ext) cA σ 0 Λ)[i]? = some p → p.1 = b + i := by
    intro i p hp
    have h1 := zWs_inv _ _ _ Λ 0 i p hp
    rw [h1.2, Nat.zero_add, zcv_lt (Nat.lt_of_lt_of_le h1.1 h.2.2)]
  refine ⟨fun i j p q hp hq e => ?_, fun k q hq => ?_⟩
  · have h1 := hx i p hp
    have h2 := hx j q hq
    omega
  · show b ≤ q.1
    have h1 := hx k q hq
    omega
def zroom (d mc ms : Nat) : Room := { frames := d, cells := mc, slots := ms, locals := 64 * d }
def zPre (D : va_G) (cA : ClassId) (b : Nat) (ext : Nat → Nat) (Λ : zLay) (σ : zMem) (U : State) : Prop := zPic D cA b ext Λ σ U.heap ∧ zKst D cA b ext U U.heap
def zPost (D : va_G) (cA : ClassId) (b : Nat) (ext : Nat → Nat) (R : Option Value) (Λ : zLay) (S : zMem) : Array Value → State → Outcome → State → Prop := fun _ st o t => o = .returned (R.map (zV (zcv b ext))) ∧ zPic D cA b ext Λ S t.heap ∧ va_F (zA b) st t
def zMet (l : Launch) (y : MethodName) (c : Cond) (d mc ms : Nat) (args : List Value) (Λ : zLay) (σ : zMem) (R : Option Value) (Λ' : zLay) (S : zMem) : Prop :=
  ∀ (D : va_G) (cA : ClassId) (b : Nat) (ext : Nat → Nat), Met l y (c :: zW) (zroom d mc ms) (va_Pc (args.map (zV (zcv b ext))) (zPre D cA b ext Λ σ)) (zPost D cA b ext R Λ' S) mc ms (zA b)
def zHas (cv : Nat → Nat) (ls : Array Slot) (nL : Nat) (L : zLs) : Prop := ls.size = nL ∧ lv_wf ls ∧ ∀ (i : Nat) (v : Value), L[i]? = some (some v) → ls[i]? = some (.val (zV cv v))
abbrev zGT : Type := Nat → zLs → List Value → zLay → zMem → Nat → Nat → Prop
def zG (p : Program) (l : Launch) (e : Env) (R : Room) (s : State) (m : MethodId) (args : Array Value) (below : List Frame) (meth : Method) (c : Code) (D : va_G) (cA : ClassId) (b : Nat) (ext : Nat → Nat) (nL : Nat) (Q : State → Prop) : zGT := fun pc L st Λ σ k n =>
  ∀ (H : Heap) (locs : List Loc) (ls : Array Slot), zPic D cA b ext Λ σ H → va_S (zA b) s.heap H locs → zHas (zcv b ext) ls nL L → W p l e R s m args below meth c H locs k n Q (F0 m pc ls (st.map (zV (zcv b ext))))
def zOk (G : zGT) (l : Launch) (cc : ByteArray) (own : String) (nL d C N : Nat) (ini : Bool) : Prop :=
  ∃ (p : Program) (e : Env) (R : Room) (s : State) (m : MethodId) (args : Array Value) (below : List Frame) (meth : Method) (c : Code) (D : va_G) (cA : ClassId) (b : Nat) (ext : Nat → Nat) (Q : State → Prop),
    G = zG p l e R s m args below meth c D cA b ext nL Q ∧ p.tables.exec = Jvm.exec ∧ c.code = cc ∧ c.maxLocals = nL ∧ s.vm.findClass own = some m.cls ∧ (∀ w ∈ zW, w.before args s = true) ∧ zKst D cA b ext s s.heap ∧ d ≤ R.frames ∧ 64 * d ≤ R.locals ∧ C ≤ R.cells ∧ N ≤ R.slots ∧ (ini = true → meth.name = "<init>") ∧ b ≤ s.heap.size
-- how a method's frame is left
def zR (G : zGT) (cc : ByteArray) (ret : Option FieldType) (T : Option Value × zMem) (Λ : zLay) (mc ms : Nat) : Prop :=
  (∀ (pc : Nat) (L : zLs) (x : Int32) (ty : FieldType), decode cc pc = .ok (.ireturn, 1) → ret = some ty → narrow ty (.int x) = .int x → T.1 = some (.int x) → G pc L [.int x] Λ T.2 mc ms) ∧
  (∀ (pc : Nat) (L : zLs) (x : Int64), decode cc pc = .ok (.lreturn, 1) → ret = some .long → T.1 = some (.long x) → G pc L [.long x] Λ T.2 mc ms) ∧
  (∀ (pc : Nat) (L : zLs), decode cc pc = .ok (.return_, 1) → ret = none → T.1 = none → G pc L [] Λ T.2 mc ms) ∧
  (∀ (pc : Nat) (L : zLs) (q : Nat) (n : String), decode cc pc = .ok (.areturn, 1) → ret = some (.object n) → T.1 = some (.ref q) → G pc L [.ref q] Λ T.2 mc ms)
theorem zHas_entry {cv : Nat → Nat} {n : Nat} (vs : List Value) (L : zLs) (h : (lg_sl (vs.map (zV cv))).length ≤ n) (hL : ∀ (i : Nat) (v : Value), L[i]? = some (some v) → (i, zV cv v) ∈ lv_args 0 (vs.map (zV cv))) : zHas cv ((lg_sl (vs.map (zV cv)) ++ List.replicate (n - (lg_sl (vs.map (zV cv))).length) Slot.unset).toArray) n L := by
  have h1 := lv_entry (vs.map (zV cv)) h
  exact ⟨h1.1, h1.2.1, fun i v hv => h1.2.2 (i, zV cv v) (hL i v hv)⟩
def zArgs : List Value → zLs
  | [] => []
  | v :: r => if v.category = 2 then some v :: none :: zArgs r else some v :: zArgs r
theorem zV_cat (cv : Nat → Nat) (v : Value) : (zV cv v).category = v.category := by cases v <;> rfl
theorem zArgs_in (cv : Nat → Nat) : ∀ (vs : List Value) (j i : Nat) (v : Value), (zArgs vs)[i]? = some (some v) → (j + i, zV cv v) ∈ lv_args j (vs.map (zV cv))
  | [], j, i, v, h => by simp [zArgs] at h
  | u :: r, j, i, v, h => by
    simp only [List.map_cons, lv_args, zV_cat]
    by_cases hu : u.category = 2
    · simp only [zArgs, hu, if_true] at h ⊢
      match i, h with
      | 0, h =>
        simp only [List.getElem?_cons_zero, Option.some.injEq] at h
        subst h
        exact List.mem_cons_self
      | 1, h => simp at h
      | i + 2, h =>
        simp only [List.getElem?_cons_succ] at h
        have := zArgs_in cv r (j + 2) i v h
        rw [show j + 2 + i = j + (i + 2) by omega] at this
        exact List.mem_cons_of_mem _ this
    · simp only [zArgs, hu, if_false] at h ⊢
      match i, h with
      | 0, h =>
        simp only [List.getElem?_cons_zero, Option.some.injEq] at h
        subst h
        exact List.mem_cons_self
      | i + 1, h =>
        simp only [List.getElem?_cons_succ] at h
        have := zArgs_in cv r (j + 1) i v h
        rw [show j + 1 + i = j + (i + 1) by omega] at this
        exact List.mem_cons_of_mem _ this
theorem zsl_len (cv : Nat → Nat) : ∀ vs : List Value, (lg_sl (vs.map (zV cv))).length = (zArgs vs).length
  | [] => rfl
  | u :: r => by
    have ih := zsl_len cv r
    simp only [lg_sl, List.map_cons, List.flatMap_cons, List.length_append, zV_cat] at ih ⊢
    rw [ih]
    by_cases hu : u.category = 2
    · simp [zArgs, hu]; omega
    · simp [zArgs, hu]; omega
theorem zM_of {l : Launch} {y : MethodName} {cc : ByteArray} {nL : Nat} {ret : Option FieldType} {d mc ms : Nat} {own : String} {ini : Bool} {args : List Value} {Λ Λ' : zLay} {σ : zMem} {T : Option Value × zMem}
    (hy : plainName y.cls = true) (hown : y.cls = own) (hi : ini = true → y.name = "<init>") (hl : (zArgs args).length ≤ nL) (L : zLs) (hL : zArgs args ++ List.replicate (nL - (zArgs args).length) none = L)
    (h : ∀ G : zGT, zOk G l cc own nL d mc ms ini → zR G cc ret T Λ' mc ms → G 0 L [] Λ σ 0 0) : zMet l y (.code y cc nL ret) d mc ms args Λ σ T.1 Λ' T.2 := by
  intro D cA b ext
  refine Met.ofW (cc := cc) (maxL := nL) (ret := ret) hy rfl ?_
  intro p e s m as below meth c s₁ B hml hv
  obtain ⟨rfl, hP, hK⟩ := hv
  have hx := B.exec
  have hb := B.bytes
  have hr := B.returns
  have hts := atoms_spec (ws := (Cond.code y cc nL ret) :: zW) B.pre
  have hownc : s.vm.findClass own = some m.cls := by rw [← hown]; exact findClass_of_methodNamed B.named
  have hlocks := B.notSynchronized
  have hin : ini = true → meth.name = "<init>" := fun q => by rw [(name_of_methodNamed B.named B.method).1]; exact hi q
  have hb0 : b ≤ s.heap.size := by rw [hP.2.1]; omega
  have hg := h (zG p l e (headSpec ((Cond.code y cc nL ret) :: zW) (zroom d mc ms)).room s m (args.map (zV (zcv b ext))).toArray below meth c D cA b ext nL (MQ below (zPost D cA b ext T.1 Λ' T.2) (args.map (zV (zcv b ext))).toArray s mc ms (zA b)))
    ⟨p, e, _, s, m, _, below, meth, c, D, cA, b, ext, _, rfl, hx, hb, hml, hownc, fun w hw => hts w (List.mem_cons_of_mem _ hw), hK, Nat.le_refl _, Nat.le_refl _, Nat.le_refl _, Nat.le_refl _, hin, hb0⟩ ?_
  · rw [lg_entry_eq]
    refine hg s.heap [] _ hP va_S.rf ?_
    have hz : (lg_sl (args.map (zV (zcv b ext)))).length ≤ nL := by rw [zsl_len]; exact hl
    refine zHas_entry args L hz (fun i v hv => ?_)
    have h2 : (zArgs args)[i]? = some (some v) := by
      rw [← hL] at hv
      by_cases hi2 : i < (zArgs args).length
      · rwa [List.getElem?_append_left hi2] at hv
      · rw [List.getElem?_append_right (by omega), List.getElem?_replicate] at hv
        split at hv <;> simp at hv
    have := zArgs_in (zcv b ext) args 0 i v h2
    rwa [Nat.zero_add] at this
  · refine ⟨?_, ?_, ?_, ?_⟩
    · intro pc L x ty hd hret hn hT H locs ls hP2 hS hl2
      exact W.zret (v := x) hx hb (by rw [hr, hret]) hn (fun t ht hW => ⟨by rw [hT]; rfl, by rw [ht]; exact hP2, hS.F ht⟩) hS.2.2 hd
    · intro pc L x hd hret hT H locs ls hP2 hS hl2
      exact W.lret (v := x) hx hb (by rw [hr, hret]) (fun t ht hW => ⟨by rw [hT]; rfl, by rw [ht]; exact hP2, hS.F ht⟩) hS.2.2 hd
    · intro pc L hd hret hT H locs ls hP2 hS hl2
      exact W.vret hx hb (by rw [hr, hret]) (fun t ht hW => ⟨by rw [hT]; rfl, by rw [ht]; exact hP2, hS.F ht⟩) hS.2.2 hd
    · intro pc L q nm hd hret hT H locs ls hP2 hS hl2
      exact W.aret (v := .ref (zcv b ext q)) hx hb (by rw [hr, hret]) (Or.inl ⟨nm, rfl⟩) (Or.inr ⟨_, rfl⟩) (fun t ht hW => ⟨by rw [hT]; rfl, by rw [ht]; exact hP2, hS.F ht⟩) hS.2.2 hd
end
section
def zE {α : Type} (G : zGT) (T : Option Value × zMem) (enc : α → Option Value) (Λ : zLay) (k n : Nat) (pc : Nat) (L : zLs) (st : List Value) (σ : zMem) (e : Option (α × zMem)) : Prop := ∀ r S, e = some (r, S) → enc r = T.1 → S = T.2 → G pc L st Λ σ k n
def nm {α β : Sort _} (v : α) (e : α → β) : β := e v
def gd {α : Type} (c : Bool) (e : Option α) : Option α := if c = true then e else none
def bd {α β : Type} (m : Option (α × zMem)) (f : α → zMem → Option β) : Option β := match m with
  | none => none
  | some q => f q.1 q.2
abbrev zix (i : Int32) : Nat := i.toNatClampNeg
def zib (i : Int32) (n : Nat) : Bool := decide (0 ≤ i) && decide (zix i < n)
theorem zib_in {i : Int32} {n : Nat} (h : zib i n = true) : vp_in i n := by
  simp only [zib, Bool.and_eq_true, decide_eq_true_eq] at h
  rintro (q | q)
  · exact absurd h.1 (Int32.not_le.mpr q)
  · exact absurd h.2 (Nat.not_lt.mpr q)
theorem zE_weak {α : Type} {G : zGT} {l : Launch} {cc : ByteArray} {own : String} {nL d C N : Nat} {ini : Bool} {T : Option Value × zMem} {enc : α → Option Value} {Λ : zLay} {k n pc : Nat} {L L' : zLs} {st : List Value} {σ : zMem} {e : Option (α × zMem)} (h : zOk G l cc own nL d C N ini) (ms : List Bool) (hm : List.zipWith (fun (b : Bool) x => if b = true then x else none) ms L = L') (kk : zE G T enc Λ k n pc L' st σ e) : zE G T enc Λ k n pc L st σ e := by
  obtain ⟨p, e0, R, s, m, args, below, meth, c, D, cA, b, ext, Q, rfl, hx, hb, hml, hown, hts, hK, hfr, hlo, hC, hN, hini, hbs⟩ := h
  intro r S h1 h2 h3 H locs ls hP hS hl
  refine kk r S h1 h2 h3 H locs ls hP hS ⟨hl.1, hl.2.1, fun i v hv => hl.2.2 i v ?_⟩
  rw [← hm, List.getElem?_zipWith] at hv
  cases hx1 : ms[i]? with
  | none => simp [hx1] at hv
  | some b2 => cases hx2 : L[i]? with
    | none => simp [hx1, hx2] at hv
    | some w =>
      simp only [hx1, hx2, Option.some.injEq] at hv
      cases b2 with
      | false => simp at hv
      | true => simpa using hv
def zPr (cv : Nat → Nat) : Nat → zLs → List (Nat × Value)
  | _, [] => []
  | i, none :: r => zPr cv (i + 1) r
  | i, some v :: r => (i, zV cv v) :: zPr cv (i + 1) r
theorem zPr_in (cv : Nat → Nat) : ∀ (L : zLs) (j i : Nat) (v : Value), L[i]? = some (some v) → (j + i, zV cv v) ∈ zPr cv j L
  | [], j, i, v, h => by simp at h
  | u :: r, j, 0, v, h => by
    simp only [List.getElem?_cons_zero, Option.some.injEq] at h
    subst h
    exact List.mem_cons_self
  | u :: r, j, i + 1, v, h => by
    simp only [List.getElem?_cons_succ] at h
    have h2 := zPr_in cv r (j + 1) i v h
    rw [show j + 1 + i = j + (i + 1) by omega] at h2
    cases u with
    | none => exact h2
    | some w => exact List.mem_cons_of_mem _ h2
theorem zPr_of (cv : Nat → Nat) : ∀ (L : zLs) (j : Nat) (q : Nat × Value), q ∈ zPr cv j L → ∃ (i : Nat) (v : Value), L[i]? = some (some v) ∧ q = (j + i, zV cv v)
  | [], j, q, h => by simp [zPr] at h
  | none :: r, j, q, h => by
    obtain ⟨i, v, h1, h2⟩ := zPr_of cv r (j + 1) q h
    exact ⟨i + 1, v, by simpa using h1, by rw [h2, show j + 1 + i = j + (i + 1) by omega]⟩
  | some w :: r, j, q, h => by
    rcases List.mem_cons.mp h with h | h
    · exact ⟨0, w, by simp, h⟩
    · obtain ⟨i, v, h1, h2⟩ := zPr_of cv r (j + 1) q h
      exact ⟨i + 1, v, by simpa using h1, by rw [h2, show j + 1 + i = j + (i + 1) by omega]⟩
theorem zHas.lv {cv : Nat → Nat} {ls : Array Slot} {nL : Nat} {L : zLs} (h : zHas cv ls nL L) : lv_has ls nL (zPr cv 0 L) := by
  refine ⟨h.1, h.2.1, fun q hq => ?_⟩
  obtain ⟨i, v, h1, h2⟩ := zPr_of cv L 0 q hq
  subst h2
  simpa using h.2.2 i v h1
def zNl (L : zLs) (i : Nat) : Bool := match i with
  | 0 => true
  | j + 1 => match L[j]? with
    | some (some v) => v.category == 1
    | _ => true
theorem zset1 {cv : Nat → Nat} {ls : Array Slot} {nL i : Nat} {L L' : zLs} {v : Value} (hn : zNl L i = true) (hs : L.set i (some v) = L') (h : lv_has ls nL ((i, zV cv v) :: (zPr cv 0 L).filter (fun q => !(q.1 == i) && !(q.1 + 1 == i && q.2.category == 2)))) : zHas cv ls nL L' := by
  refine ⟨h.1, h.2.1, fun j w hw => ?_⟩
  subst hs
  by_cases hj : j = i
  · subst hj
    rw [List.getElem?_set] at hw
    simp only [if_true] at hw
    split at hw
    · simp only [Option.some.injEq] at hw
      subst hw
      exact h.2.2 _ List.mem_cons_self
    · cases hw
  · rw [List.getElem?_set_ne (fun q => hj q.symm)] at hw
    have hm := zPr_in cv L 0 j w hw
    rw [Nat.zero_add] at hm
    refine h.2.2 (j, zV cv w) (List.mem_cons_of_mem _ (List.mem_filter.mpr ⟨hm, ?_⟩))
    have h1 : (j == i) = false := by simp [hj]
    simp only [h1, Bool.not_false, Bool.true_and, Bool.not_eq_true']
    by_cases hji : j + 1 = i
    · subst hji
      simp only [zNl, hw, beq_iff_eq] at hn
      simp [zV_cat, hn]
    · simp [hji]
theorem zset2 {cv : Nat → Nat} {ls : Array Slot} {nL i : Nat} {L L' : zLs} {v : Value} (hn : zNl L i = true) (hs : (L.set i (some v)).set (i + 1) none = L') (h : lv_has ls nL ((i, zV cv v) :: (zPr cv 0 L).filter (fun q => !(q.1 == i) && (!(q.1 == i + 1) && !(q.1 + 1 == i && q.2.category == 2))))) : zHas cv ls nL L' := by
  refine ⟨h.1, h.2.1, fun j w hw => ?_⟩
  subst hs
  by_cases hj1 : j = i + 1
  · subst hj1
    rw [List.getElem?_set] at hw
    simp only [if_true] at hw
    split at hw <;> simp at hw
  rw [List.getElem?_set_ne (fun q => hj1 q.symm)] at hw
  by_cases hj : j = i
  · subst hj
    rw [List.getElem?_set] at hw
    simp only [if_true] at hw
    split at hw
    · simp only [Option.some.injEq] at hw
      subst hw
      exact h.2.2 _ List.mem_cons_self
    · cases hw
  · rw [List.getElem?_set_ne (fun q => hj q.symm)] at hw
    have hm := zPr_in cv L 0 j w hw
    rw [Nat.zero_add] at hm
    refine h.2.2 (j, zV cv w) (List.mem_cons_of_mem _ (List.mem_filter.mpr ⟨hm, ?_⟩))
    have h1 : (j == i) = false := by simp [hj]
    have h0 : (j == i + 1) = false := by simp [hj1]
    simp only [h1, h0, Bool.not_false, Bool.true_and, Bool.not_eq_true']
    by_cases hji : j + 1 = i
    · subst hji
      simp only [zNl, hw, beq_iff_eq] at hn
      simp [zV_cat, hn]
    · simp [hji]
theorem zCat (cv : Nat → Nat) (st : List Value) : ((st.map (zV cv)).map fun v => v.category).sum = (st.map fun v => v.category).sum := by
  rw [List.map_map]
  congr 1
  exact List.map_congr_left (fun v _ => zV_cat cv v)
theorem zW_size {p : Program} {l : Launch} {e : Env} {R : Room} {s : State} {m : MethodId} {args : Array Value} {below : List Frame} {meth : Method} {c : Code} {H : Heap} {locs : List Loc} {n : Nat} {Q : State → Prop} {g : JFrame} (hS : s.heap.size ≤ H.size) (kk : H.size = s.heap.size → W p l e R s m args below meth c H locs 0 n Q g) : W p l e R s m args below meth c H locs 0 n Q g := by
  intro T hT X
  refine kk ?_ T hT X
  have := X.heapSize
  rw [hT] at this
  omega

theorem ze_iconst {α : Type} {G : zGT} {l : Launch} {cc : ByteArray} {own : String} {nL d C N : Nat} {ini : Bool} {T : Option Value × zMem} {enc : α → Option Value} {Λ : zLay} {k n pc : Nat} {L : zLs} {st : List Value} {σ : zMem} {e : Option (α × zMem)} (h : zOk G l cc own nL d C N ini) {q : Int} (v : Int32) (hd : decode cc pc = .ok (.iconst q, 1)) (hv : Int32.ofInt q = v) (kk : zE G T enc Λ k n (pc + 1) L (.int v :: st) σ e) : zE G T enc Λ k n pc L st σ e := by
  obtain ⟨p, e0, R, s, m, args, below, meth, c, D, cA, b, ext, Q, rfl, hx, hb, hml, hown, hts, hK, hfr, hlo, hC, hN, hini, hbs⟩ := h
  intro r S h1 h2 h3 H locs ls hP hS hl
  exact lv_iconst hx hb hd hv (kk r S h1 h2 h3 H locs ls hP hS hl)
theorem ze_bipush {α : Type} {G : zGT} {l : Launch} {cc : ByteArray} {own : String} {nL d C N : Nat} {ini : Bool} {T : Option Value × zMem} {enc : α → Option Value} {Λ : zLay} {k n pc : Nat} {L : zLs} {st : List Value} {σ : zMem} {e : Option (α × zMem)} (h : zOk G l cc own nL d C N ini) {q : Int} (v : Int32) (hd : decode cc pc = .ok (.bipush q, 2)) (hv : (Int8.ofInt q).toInt32 = v) (kk : zE G T enc Λ k n (pc + 2) L (.int v :: st) σ e) : zE G T enc Λ k n pc L st σ e := by
  obtain ⟨p, e0, R, s, m, args, below, meth, c, D, cA, b, ext, Q, rfl, hx, hb, hml, hown, hts, hK, hfr, hlo, hC, hN, hini, hbs⟩ := h
  intro r S h1 h2 h3 H locs ls hP hS hl
  exact lv_bipush hx hb hd hv (kk r S h1 h2 h3 H locs ls hP hS hl)
theorem ze_sipush {α : Type} {G : zGT} {l : Launch} {cc : ByteArray} {own : String} {nL d C N : Nat} {ini : Bool} {T : Option Value × zMem} {enc : α → Option Value} {Λ : zLay} {k n pc : Nat} {L : zLs} {st : List Value} {σ : zMem} {e : Option (α × zMem)} (h : zOk G l cc own nL d C N ini) {q : Int} (v : Int32) (hd : decode cc pc = .ok (.sipush q, 3)) (hv : (Int16.ofInt q).toInt32 = v) (kk : zE G T enc Λ k n (pc + 3) L (.int v :: st) σ e) : zE G T enc Λ k n pc L st σ e := by
  obtain ⟨p, e0, R, s, m, args, below, meth, c, D, cA, b, ext, Q, rfl, hx, hb, hml, hown, hts, hK, hfr, hlo, hC, hN, hini, hbs⟩ := h
  intro r S h1 h2 h3 H locs ls hP hS hl
  exact lv_sipush hx hb hd hv (kk r S h1 h2 h3 H locs ls hP hS hl)
theorem ze_lconst {α : Type} {G : zGT} {l : Launch} {cc : ByteArray} {own : String} {nL d C N : Nat} {ini : Bool} {T : Option Value × zMem} {enc : α → Option Value} {Λ : zLay} {k n pc : Nat} {L : zLs} {st : List Value} {σ : zMem} {e : Option (α × zMem)} (h : zOk G l cc own nL d C N ini) {q : Fin 2} (v : Int64) (hd : decode cc pc = .ok (.lconst q, 1)) (hv : Int64.ofNat (q : Nat) = v) (kk : zE G T enc Λ k n (pc + 1) L (.long v :: st) σ e) : zE G T enc Λ k n pc L st σ e := by
  obtain ⟨p, e0, R, s, m, args, below, meth, c, D, cA, b, ext, Q, rfl, hx, hb, hml, hown, hts, hK, hfr, hlo, hC, hN, hini, hbs⟩ := h
  intro r S h1 h2 h3 H locs ls hP hS hl
  exact lv_lconst hx hb hd hv (kk r S h1 h2 h3 H locs ls hP hS hl)
theorem ze_iload_n {α : Type} {G : zGT} {l : Launch} {cc : ByteArray} {own : String} {nL d C N : Nat} {ini : Bool} {T : Option Value × zMem} {enc : α → Option Value} {Λ : zLay} {k n pc : Nat} {L : zLs} {st : List Value} {σ : zMem} {e : Option (α × zMem)} (h : zOk G l cc own nL d C N ini) {q : Fin 4} {x : Int32} (hd : decode cc pc = .ok (.iload_n q, 1)) (hL : L[(q : Nat)]? = some (some (.int x))) (kk : zE G T enc Λ k n (pc + 1) L (.int x :: st) σ e) : zE G T enc Λ k n pc L st σ e := by
  obtain ⟨p, e0, R, s, m, args, below, meth, c, D, cA, b, ext, Q, rfl, hx, hb, hml, hown, hts, hK, hfr, hlo, hC, hN, hini, hbs⟩ := h
  intro r S h1 h2 h3 H locs ls hP hS hl
  exact lv_iload_n hx hb hd rfl (hl.2.2 _ _ hL) (kk r S h1 h2 h3 H locs ls hP hS hl)
theorem ze_iload {α : Type} {G : zGT} {l : Launch} {cc : ByteArray} {own : String} {nL d C N : Nat} {ini : Bool} {T : Option Value × zMem} {enc : α → Option Value} {Λ : zLay} {k n pc : Nat} {L : zLs} {st : List Value} {σ : zMem} {e : Option (α × zMem)} (h : zOk G l cc own nL d C N ini) {q : Nat} {x : Int32} (hd : decode cc pc = .ok (.iload q, 2)) (hL : L[q]? = some (some (.int x))) (kk : zE G T enc Λ k n (pc + 2) L (.int x :: st) σ e) : zE G T enc Λ k n pc L st σ e := by
  obtain ⟨p, e0, R, s, m, args, below, meth, c, D, cA, b, ext, Q, rfl, hx, hb, hml, hown, hts, hK, hfr, hlo, hC, hN, hini, hbs⟩ := h
  intro r S h1 h2 h3 H locs ls hP hS hl
  exact lv_iload hx hb hd (hl.2.2 _ _ hL) (kk r S h1 h2 h3 H locs ls hP hS hl)
theorem ze_lload_n {α : Type} {G : zGT} {l : Launch} {cc : ByteArray} {own : String} {nL d C N : Nat} {ini : Bool} {T : Option Value × zMem} {enc : α → Option Value} {Λ : zLay} {k n pc : Nat} {L : zLs} {st : List Value} {σ : zMem} {e : Option (α × zMem)} (h : zOk G l cc own nL d C N ini) {q : Fin 4} {x : Int64} (hd : decode cc pc = .ok (.lload_n q, 1)) (hL : L[(q : Nat)]? = some (some (.long x))) (kk : zE G T enc Λ k n (pc + 1) L (.long x :: st) σ e) : zE G T enc Λ k n pc L st σ e := by
  obtain ⟨p, e0, R, s, m, args, below, meth, c, D, cA, b, ext, Q, rfl, hx, hb, hml, hown, hts, hK, hfr, hlo, hC, hN, hini, hbs⟩ := h
  intro r S h1 h2 h3 H locs ls hP hS hl
  exact lv_lload_n hx hb hd rfl (hl.2.2 _ _ hL) (kk r S h1 h2 h3 H locs ls hP hS hl)
theorem ze_lload {α : Type} {G : zGT} {l : Launch} {cc : ByteArray} {own : String} {nL d C N : Nat} {ini : Bool} {T : Option Value × zMem} {enc : α → Option Value} {Λ : zLay} {k n pc : Nat} {L : zLs} {st : List Value} {σ : zMem} {e : Option (α × zMem)} (h : zOk G l cc own nL d C N ini) {q : Nat} {x : Int64} (hd : decode cc pc = .ok (.lload q, 2)) (hL : L[q]? = some (some (.long x))) (kk : zE G T enc Λ k n (pc + 2) L (.long x :: st) σ e) : zE G T enc Λ k n pc L st σ e := by
  obtain ⟨p, e0, R, s, m, args, below, meth, c, D, cA, b, ext, Q, rfl, hx, hb, hml, hown, hts, hK, hfr, hlo, hC, hN, hini, hbs⟩ := h
  intro r S h1 h2 h3 H locs ls hP hS hl
  exact lv_lload hx hb hd (hl.2.2 _ _ hL) (kk r S h1 h2 h3 H locs ls hP hS hl)
theorem ze_aload_n {α : Type} {G : zGT} {l : Launch} {cc : ByteArray} {own : String} {nL d C N : Nat} {ini : Bool} {T : Option Value × zMem} {enc : α → Option Value} {Λ : zLay} {k n pc : Nat} {L : zLs} {st : List Value} {σ : zMem} {e : Option (α × zMem)} (h : zOk G l cc own nL d C N ini) {q : Fin 4} {x : Nat} (hd : decode cc pc = .ok (.aload_n q, 1)) (hL : L[(q : Nat)]? = some (some (.ref x))) (kk : zE G T enc Λ k n (pc + 1) L (.ref x :: st) σ e) : zE G T enc Λ k n pc L st σ e := by
  obtain ⟨p, e0, R, s, m, args, below, meth, c, D, cA, b, ext, Q, rfl, hx, hb, hml, hown, hts, hK, hfr, hlo, hC, hN, hini, hbs⟩ := h
  intro r S h1 h2 h3 H locs ls hP hS hl
  exact lv_aload_n hx hb hd rfl (hl.2.2 _ _ hL) (kk r S h1 h2 h3 H locs ls hP hS hl)
theorem ze_aload {α : Type} {G : zGT} {l : Launch} {cc : ByteArray} {own : String} {nL d C N : Nat} {ini : Bool} {T : Option Value × zMem} {enc : α → Option Value} {Λ : zLay} {k n pc : Nat} {L : zLs} {st : List Value} {σ : zMem} {e : Option (α × zMem)} (h : zOk G l cc own nL d C N ini) {q : Nat} {x : Nat} (hd : decode cc pc = .ok (.aload q, 2)) (hL : L[q]? = some (some (.ref x))) (kk : zE G T enc Λ k n (pc + 2) L (.ref x :: st) σ e) : zE G T enc Λ k n pc L st σ e := by
  obtain ⟨p, e0, R, s, m, args, below, meth, c, D, cA, b, ext, Q, rfl, hx, hb, hml, hown, hts, hK, hfr, hlo, hC, hN, hini, hbs⟩ := h
  intro r S h1 h2 h3 H locs ls hP hS hl
  exact lv_aload hx hb hd (hl.2.2 _ _ hL) (kk r S h1 h2 h3 H locs ls hP hS hl)
theorem ze_istore_n {α : Type} {G : zGT} {l : Launch} {cc : ByteArray} {own : String} {nL d C N : Nat} {ini : Bool} {T : Option Value × zMem} {enc : α → Option Value} {Λ : zLay} {k n pc : Nat} {L : zLs} {st : List Value} {σ : zMem} {e : Option (α × zMem)} (h : zOk G l cc own nL d C N ini) {q : Fin 4} {x : Int32} (L' : zLs) (hd : decode cc pc = .ok (.istore_n q, 1)) (hn : zNl L (q : Nat) = true) (hlt : (q : Nat) < nL) (hs : L.set (q : Nat) (some (.int x)) = L') (kk : zE G T enc Λ k n (pc + 1) L' st σ e) : zE G T enc Λ k n pc L (.int x :: st) σ e := by
  obtain ⟨p, e0, R, s, m, args, below, meth, c, D, cA, b, ext, Q, rfl, hx, hb, hml, hown, hts, hK, hfr, hlo, hC, hN, hini, hbs⟩ := h
  intro r S h1 h2 h3 H locs ls hP hS hl
  exact lv_istore_n hx hb hd rfl hl.lv hlt rfl (fun ls' hl' => kk r S h1 h2 h3 H locs ls' hP hS (zset1 hn hs hl'))
theorem ze_istore {α : Type} {G : zGT} {l : Launch} {cc : ByteArray} {own : String} {nL d C N : Nat} {ini : Bool} {T : Option Value × zMem} {enc : α → Option Value} {Λ : zLay} {k n pc : Nat} {L : zLs} {st : List Value} {σ : zMem} {e : Option (α × zMem)} (h : zOk G l cc own nL d C N ini) {q : Nat} {x : Int32} (L' : zLs) (hd : decode cc pc = .ok (.istore q, 2)) (hn : zNl L q = true) (hlt : q < nL) (hs : L.set q (some (.int x)) = L') (kk : zE G T enc Λ k n (pc + 2) L' st σ e) : zE G T enc Λ k n pc L (.int x :: st) σ e := by
  obtain ⟨p, e0, R, s, m, args, below, meth, c, D, cA, b, ext, Q, rfl, hx, hb, hml, hown, hts, hK, hfr, hlo, hC, hN, hini, hbs⟩ := h
  intro r S h1 h2 h3 H locs ls hP hS hl
  exact lv_istore hx hb hd hl.lv hlt rfl (fun ls' hl' => kk r S h1 h2 h3 H locs ls' hP hS (zset1 hn hs hl'))
theorem ze_lstore_n {α : Type} {G : zGT} {l : Launch} {cc : ByteArray} {own : String} {nL d C N : Nat} {ini : Bool} {T : Option Value × zMem} {enc : α → Option Value} {Λ : zLay} {k n pc : Nat} {L : zLs} {st : List Value} {σ : zMem} {e : Option (α × zMem)} (h : zOk G l cc own nL d C N ini) {q : Fin 4} {x : Int64} (L' : zLs) (hd : decode cc pc = .ok (.lstore_n q, 1)) (hn : zNl L (q : Nat) = true) (hlt : (q : Nat) + 1 < nL) (hs : (L.set (q : Nat) (some (.long x))).set ((q : Nat) + 1) none = L') (kk : zE G T enc Λ k n (pc + 1) L' st σ e) : zE G T enc Λ k n pc L (.long x :: st) σ e := by
  obtain ⟨p, e0, R, s, m, args, below, meth, c, D, cA, b, ext, Q, rfl, hx, hb, hml, hown, hts, hK, hfr, hlo, hC, hN, hini, hbs⟩ := h
  intro r S h1 h2 h3 H locs ls hP hS hl
  exact lv_lstore_n hx hb hd rfl hl.lv hlt rfl (fun ls' hl' => kk r S h1 h2 h3 H locs ls' hP hS (zset2 hn hs hl'))
theorem ze_lstore {α : Type} {G : zGT} {l : Launch} {cc : ByteArray} {own : String} {nL d C N : Nat} {ini : Bool} {T : Option Value × zMem} {enc : α → Option Value} {Λ : zLay} {k n pc : Nat} {L : zLs} {st : List Value} {σ : zMem} {e : Option (α × zMem)} (h : zOk G l cc own nL d C N ini) {q : Nat} {x : Int64} (L' : zLs) (hd : decode cc pc = .ok (.lstore q, 2)) (hn : zNl L q = true) (hlt : q + 1 < nL) (hs : (L.set q (some (.long x))).set (q + 1) none = L') (kk : zE G T enc Λ k n (pc + 2) L' st σ e) : zE G T enc Λ k n pc L (.long x :: st) σ e := by
  obtain ⟨p, e0, R, s, m, args, below, meth, c, D, cA, b, ext, Q, rfl, hx, hb, hml, hown, hts, hK, hfr, hlo, hC, hN, hini, hbs⟩ := h
  intro r S h1 h2 h3 H locs ls hP hS hl
  exact lv_lstore hx hb hd hl.lv hlt rfl (fun ls' hl' => kk r S h1 h2 h3 H locs ls' hP hS (zset2 hn hs hl'))
theorem ze_astore_n {α : Type} {G : zGT} {l : Launch} {cc : ByteArray} {own : String} {nL d C N : Nat} {ini : Bool} {T : Option Value × zMem} {enc : α → Option Value} {Λ : zLay} {k n pc : Nat} {L : zLs} {st : List Value} {σ : zMem} {e : Option (α × zMem)} (h : zOk G l cc own nL d C N ini) {q : Fin 4} {x : Nat} (L' : zLs) (hd : decode cc pc = .ok (.astore_n q, 1)) (hn : zNl L (q : Nat) = true) (hlt : (q : Nat) < nL) (hs : L.set (q : Nat) (some (.ref x)) = L') (kk : zE G T enc Λ k n (pc + 1) L' st σ e) : zE G T enc Λ k n pc L (.ref x :: st) σ e := by
  obtain ⟨p, e0, R, s, m, args, below, meth, c, D, cA, b, ext, Q, rfl, hx, hb, hml, hown, hts, hK, hfr, hlo, hC, hN, hini, hbs⟩ := h
  intro r S h1 h2 h3 H locs ls hP hS hl
  exact lv_astore_n hx hb hd rfl hl.lv hlt rfl (fun ls' hl' => kk r S h1 h2 h3 H locs ls' hP hS (zset1 hn hs hl'))
theorem ze_astore {α : Type} {G : zGT} {l : Launch} {cc : ByteArray} {own : String} {nL d C N : Nat} {ini : Bool} {T : Option Value × zMem} {enc : α → Option Value} {Λ : zLay} {k n pc : Nat} {L : zLs} {st : List Value} {σ : zMem} {e : Option (α × zMem)} (h : zOk G l cc own nL d C N ini) {q : Nat} {x : Nat} (L' : zLs) (hd : decode cc pc = .ok (.astore q, 2)) (hn : zNl L q = true) (hlt : q < nL) (hs : L.set q (some (.ref x)) = L') (kk : zE G T enc Λ k n (pc + 2) L' st σ e) : zE G T enc Λ k n pc L (.ref x :: st) σ e := by
  obtain ⟨p, e0, R, s, m, args, below, meth, c, D, cA, b, ext, Q, rfl, hx, hb, hml, hown, hts, hK, hfr, hlo, hC, hN, hini, hbs⟩ := h
  intro r S h1 h2 h3 H locs ls hP hS hl
  exact lv_astore hx hb hd hl.lv hlt rfl (fun ls' hl' => kk r S h1 h2 h3 H locs ls' hP hS (zset1 hn hs hl'))
theorem ze_iinc {α : Type} {G : zGT} {l : Launch} {cc : ByteArray} {own : String} {nL d C N : Nat} {ini : Bool} {T : Option Value × zMem} {enc : α → Option Value} {Λ : zLay} {k n pc : Nat} {L : zLs} {st : List Value} {σ : zMem} {e : Option (α × zMem)} (h : zOk G l cc own nL d C N ini) {i : Nat} {q : Int} {x : Int32} (v : Int32) (L' : zLs) (hd : decode cc pc = .ok (.iinc i q, 3)) (hL : L[i]? = some (some (.int x))) (hv : x + Int32.ofInt q = v) (hn : zNl L i = true) (hlt : i < nL) (hs : L.set i (some (.int v)) = L') (kk : zE G T enc Λ k n (pc + 3) L' st σ e) : zE G T enc Λ k n pc L st σ e := by
  obtain ⟨p, e0, R, s, m, args, below, meth, c, D, cA, b, ext, Q, rfl, hx, hb, hml, hown, hts, hK, hfr, hlo, hC, hN, hini, hbs⟩ := h
  intro r S h1 h2 h3 H locs ls hP hS hl
  have hm := zPr_in (zcv b ext) L 0 i _ hL
  rw [Nat.zero_add] at hm
  obtain ⟨j, hj⟩ := List.mem_iff_getElem?.mp hm
  exact lv_iinc hx hb hd hl.lv (k := j) hj hv hlt rfl (fun ls' hl' => kk r S h1 h2 h3 H locs ls' hP hS (zset1 hn hs hl'))
theorem ze_iadd {α : Type} {G : zGT} {l : Launch} {cc : ByteArray} {own : String} {nL d C N : Nat} {ini : Bool} {T : Option Value × zMem} {enc : α → Option Value} {Λ : zLay} {k n pc : Nat} {L : zLs} {st : List Value} {σ : zMem} {e : Option (α × zMem)} (h : zOk G l cc own nL d C N ini) {x y : Int32} (hd : decode cc pc = .ok (.iadd, 1)) (kk : zE G T enc Λ k n (pc + 1) L (.int (x + y) :: st) σ e) : zE G T enc Λ k n pc L (.int y :: .int x :: st) σ e := by
  obtain ⟨p, e0, R, s, m, args, below, meth, c, D, cA, b, ext, Q, rfl, hx, hb, hml, hown, hts, hK, hfr, hlo, hC, hN, hini, hbs⟩ := h
  intro r S h1 h2 h3 H locs ls hP hS hl
  exact lv_iadd hx hb hd (kk r S h1 h2 h3 H locs ls hP hS hl)
theorem ze_isub {α : Type} {G : zGT} {l : Launch} {cc : ByteArray} {own : String} {nL d C N : Nat} {ini : Bool} {T : Option Value × zMem} {enc : α → Option Value} {Λ : zLay} {k n pc : Nat} {L : zLs} {st : List Value} {σ : zMem} {e : Option (α × zMem)} (h : zOk G l cc own nL d C N ini) {x y : Int32} (hd : decode cc pc = .ok (.isub, 1)) (kk : zE G T enc Λ k n (pc + 1) L (.int (x - y) :: st) σ e) : zE G T enc Λ k n pc L (.int y :: .int x :: st) σ e := by
  obtain ⟨p, e0, R, s, m, args, below, meth, c, D, cA, b, ext, Q, rfl, hx, hb, hml, hown, hts, hK, hfr, hlo, hC, hN, hini, hbs⟩ := h
  intro r S h1 h2 h3 H locs ls hP hS hl
  exact lv_isub hx hb hd (kk r S h1 h2 h3 H locs ls hP hS hl)
theorem ze_imul {α : Type} {G : zGT} {l : Launch} {cc : ByteArray} {own : String} {nL d C N : Nat} {ini : Bool} {T : Option Value × zMem} {enc : α → Option Value} {Λ : zLay} {k n pc : Nat} {L : zLs} {st : List Value} {σ : zMem} {e : Option (α × zMem)} (h : zOk G l cc own nL d C N ini) {x y : Int32} (hd : decode cc pc = .ok (.imul, 1)) (kk : zE G T enc Λ k n (pc + 1) L (.int (x * y) :: st) σ e) : zE G T enc Λ k n pc L (.int y :: .int x :: st) σ e := by
  obtain ⟨p, e0, R, s, m, args, below, meth, c, D, cA, b, ext, Q, rfl, hx, hb, hml, hown, hts, hK, hfr, hlo, hC, hN, hini, hbs⟩ := h
  intro r S h1 h2 h3 H locs ls hP hS hl
  exact lv_imul hx hb hd (kk r S h1 h2 h3 H locs ls hP hS hl)
theorem ze_iand {α : Type} {G : zGT} {l : Launch} {cc : ByteArray} {own : String} {nL d C N : Nat} {ini : Bool} {T : Option Value × zMem} {enc : α → Option Value} {Λ : zLay} {k n pc : Nat} {L : zLs} {st : List Value} {σ : zMem} {e : Option (α × zMem)} (h : zOk G l cc own nL d C N ini) {x y : Int32} (hd : decode cc pc = .ok (.iand, 1)) (kk : zE G T enc Λ k n (pc + 1) L (.int (x &&& y) :: st) σ e) : zE G T enc Λ k n pc L (.int y :: .int x :: st) σ e := by
  obtain ⟨p, e0, R, s, m, args, below, meth, c, D, cA, b, ext, Q, rfl, hx, hb, hml, hown, hts, hK, hfr, hlo, hC, hN, hini, hbs⟩ := h
  intro r S h1 h2 h3 H locs ls hP hS hl
  exact lv_iand hx hb hd (kk r S h1 h2 h3 H locs ls hP hS hl)
theorem ze_ior {α : Type} {G : zGT} {l : Launch} {cc : ByteArray} {own : String} {nL d C N : Nat} {ini : Bool} {T : Option Value × zMem} {enc : α → Option Value} {Λ : zLay} {k n pc : Nat} {L : zLs} {st : List Value} {σ : zMem} {e : Option (α × zMem)} (h : zOk G l cc own nL d C N ini) {x y : Int32} (hd : decode cc pc = .ok (.ior, 1)) (kk : zE G T enc Λ k n (pc + 1) L (.int (x ||| y) :: st) σ e) : zE G T enc Λ k n pc L (.int y :: .int x :: st) σ e := by
  obtain ⟨p, e0, R, s, m, args, below, meth, c, D, cA, b, ext, Q, rfl, hx, hb, hml, hown, hts, hK, hfr, hlo, hC, hN, hini, hbs⟩ := h
  intro r S h1 h2 h3 H locs ls hP hS hl
  exact lv_ior hx hb hd (kk r S h1 h2 h3 H locs ls hP hS hl)
theorem ze_ixor {α : Type} {G : zGT} {l : Launch} {cc : ByteArray} {own : String} {nL d C N : Nat} {ini : Bool} {T : Option Value × zMem} {enc : α → Option Value} {Λ : zLay} {k n pc : Nat} {L : zLs} {st : List Value} {σ : zMem} {e : Option (α × zMem)} (h : zOk G l cc own nL d C N ini) {x y : Int32} (hd : decode cc pc = .ok (.ixor, 1)) (kk : zE G T enc Λ k n (pc + 1) L (.int (x ^^^ y) :: st) σ e) : zE G T enc Λ k n pc L (.int y :: .int x :: st) σ e := by
  obtain ⟨p, e0, R, s, m, args, below, meth, c, D, cA, b, ext, Q, rfl, hx, hb, hml, hown, hts, hK, hfr, hlo, hC, hN, hini, hbs⟩ := h
  intro r S h1 h2 h3 H locs ls hP hS hl
  exact lv_ixor hx hb hd (kk r S h1 h2 h3 H locs ls hP hS hl)
theorem ze_ishl {α : Type} {G : zGT} {l : Launch} {cc : ByteArray} {own : String} {nL d C N : Nat} {ini : Bool} {T : Option Value × zMem} {enc : α → Option Value} {Λ : zLay} {k n pc : Nat} {L : zLs} {st : List Value} {σ : zMem} {e : Option (α × zMem)} (h : zOk G l cc own nL d C N ini) {x y : Int32} (hd : decode cc pc = .ok (.ishl, 1)) (kk : zE G T enc Λ k n (pc + 1) L (.int (x <<< (y &&& 31)) :: st) σ e) : zE G T enc Λ k n pc L (.int y :: .int x :: st) σ e := by
  obtain ⟨p, e0, R, s, m, args, below, meth, c, D, cA, b, ext, Q, rfl, hx, hb, hml, hown, hts, hK, hfr, hlo, hC, hN, hini, hbs⟩ := h
  intro r S h1 h2 h3 H locs ls hP hS hl
  exact lv_ishl hx hb hd (kk r S h1 h2 h3 H locs ls hP hS hl)
theorem ze_ishr {α : Type} {G : zGT} {l : Launch} {cc : ByteArray} {own : String} {nL d C N : Nat} {ini : Bool} {T : Option Value × zMem} {enc : α → Option Value} {Λ : zLay} {k n pc : Nat} {L : zLs} {st : List Value} {σ : zMem} {e : Option (α × zMem)} (h : zOk G l cc own nL d C N ini) {x y : Int32} (hd : decode cc pc = .ok (.ishr, 1)) (kk : zE G T enc Λ k n (pc + 1) L (.int (x >>> (y &&& 31)) :: st) σ e) : zE G T enc Λ k n pc L (.int y :: .int x :: st) σ e := by
  obtain ⟨p, e0, R, s, m, args, below, meth, c, D, cA, b, ext, Q, rfl, hx, hb, hml, hown, hts, hK, hfr, hlo, hC, hN, hini, hbs⟩ := h
  intro r S h1 h2 h3 H locs ls hP hS hl
  exact lv_ishr hx hb hd (kk r S h1 h2 h3 H locs ls hP hS hl)
theorem ze_iushr {α : Type} {G : zGT} {l : Launch} {cc : ByteArray} {own : String} {nL d C N : Nat} {ini : Bool} {T : Option Value × zMem} {enc : α → Option Value} {Λ : zLay} {k n pc : Nat} {L : zLs} {st : List Value} {σ : zMem} {e : Option (α × zMem)} (h : zOk G l cc own nL d C N ini) {x y : Int32} (hd : decode cc pc = .ok (.iushr, 1)) (kk : zE G T enc Λ k n (pc + 1) L (.int ((x.toUInt32 >>> (y.toUInt32 &&& Int32.toUInt32 31)).toInt32) :: st) σ e) : zE G T enc Λ k n pc L (.int y :: .int x :: st) σ e := by
  obtain ⟨p, e0, R, s, m, args, below, meth, c, D, cA, b, ext, Q, rfl, hx, hb, hml, hown, hts, hK, hfr, hlo, hC, hN, hini, hbs⟩ := h
  intro r S h1 h2 h3 H locs ls hP hS hl
  exact lv_iushr hx hb hd rfl (kk r S h1 h2 h3 H locs ls hP hS hl)
theorem ze_ineg {α : Type} {G : zGT} {l : Launch} {cc : ByteArray} {own : String} {nL d C N : Nat} {ini : Bool} {T : Option Value × zMem} {enc : α → Option Value} {Λ : zLay} {k n pc : Nat} {L : zLs} {st : List Value} {σ : zMem} {e : Option (α × zMem)} (h : zOk G l cc own nL d C N ini) {x : Int32} (hd : decode cc pc = .ok (.ineg, 1)) (kk : zE G T enc Λ k n (pc + 1) L (.int (-x) :: st) σ e) : zE G T enc Λ k n pc L (.int x :: st) σ e := by
  obtain ⟨p, e0, R, s, m, args, below, meth, c, D, cA, b, ext, Q, rfl, hx, hb, hml, hown, hts, hK, hfr, hlo, hC, hN, hini, hbs⟩ := h
  intro r S h1 h2 h3 H locs ls hP hS hl
  exact lv_ineg hx hb hd (kk r S h1 h2 h3 H locs ls hP hS hl)
theorem ze_ladd {α : Type} {G : zGT} {l : Launch} {cc : ByteArray} {own : String} {nL d C N : Nat} {ini : Bool} {T : Option Value × zMem} {enc : α → Option Value} {Λ : zLay} {k n pc : Nat} {L : zLs} {st : List Value} {σ : zMem} {e : Option (α × zMem)} (h : zOk G l cc own nL d C N ini) {x y : Int64} (hd : decode cc pc = .ok (.ladd, 1)) (kk : zE G T enc Λ k n (pc + 1) L (.long (x + y) :: st) σ e) : zE G T enc Λ k n pc L (.long y :: .long x :: st) σ e := by
  obtain ⟨p, e0, R, s, m, args, below, meth, c, D, cA, b, ext, Q, rfl, hx, hb, hml, hown, hts, hK, hfr, hlo, hC, hN, hini, hbs⟩ := h
  intro r S h1 h2 h3 H locs ls hP hS hl
  exact lv_ladd hx hb hd (kk r S h1 h2 h3 H locs ls hP hS hl)
theorem ze_lsub {α : Type} {G : zGT} {l : Launch} {cc : ByteArray} {own : String} {nL d C N : Nat} {ini : Bool} {T : Option Value × zMem} {enc : α → Option Value} {Λ : zLay} {k n pc : Nat} {L : zLs} {st : List Value} {σ : zMem} {e : Option (α × zMem)} (h : zOk G l cc own nL d C N ini) {x y : Int64} (hd : decode cc pc = .ok (.lsub, 1)) (kk : zE G T enc Λ k n (pc + 1) L (.long (x - y) :: st) σ e) : zE G T enc Λ k n pc L (.long y :: .long x :: st) σ e := by
  obtain ⟨p, e0, R, s, m, args, below, meth, c, D, cA, b, ext, Q, rfl, hx, hb, hml, hown, hts, hK, hfr, hlo, hC, hN, hini, hbs⟩ := h
  intro r S h1 h2 h3 H locs ls hP hS hl
  exact lv_lsub hx hb hd (kk r S h1 h2 h3 H locs ls hP hS hl)
theorem ze_lmul {α : Type} {G : zGT} {l : Launch} {cc : ByteArray} {own : String} {nL d C N : Nat} {ini : Bool} {T : Option Value × zMem} {enc : α → Option Value} {Λ : zLay} {k n pc : Nat} {L : zLs} {st : List Value} {σ : zMem} {e : Option (α × zMem)} (h : zOk G l cc own nL d C N ini) {x y : Int64} (hd : decode cc pc = .ok (.lmul, 1)) (kk : zE G T enc Λ k n (pc + 1) L (.long (x * y) :: st) σ e) : zE G T enc Λ k n pc L (.long y :: .long x :: st) σ e := by
  obtain ⟨p, e0, R, s, m, args, below, meth, c, D, cA, b, ext, Q, rfl, hx, hb, hml, hown, hts, hK, hfr, hlo, hC, hN, hini, hbs⟩ := h
  intro r S h1 h2 h3 H locs ls hP hS hl
  exact lv_lmul hx hb hd (kk r S h1 h2 h3 H locs ls hP hS hl)
def zrem (x y : Int32) : Int32 := x - x / y * y
def zremL (x y : Int64) : Int64 := x - x / y * y
theorem zgd {α : Type} {c : Bool} {e : Option α} {q : α} (h : gd c e = some q) : c = true ∧ e = some q := by
  unfold gd at h
  split at h
  · exact ⟨by assumption, h⟩
  · cases h
theorem ze_idiv {α : Type} {G : zGT} {l : Launch} {cc : ByteArray} {own : String} {nL d C N : Nat} {ini : Bool} {T : Option Value × zMem} {enc : α → Option Value} {Λ : zLay} {k n pc : Nat} {L : zLs} {st : List Value} {σ : zMem} {e : Option (α × zMem)} (h : zOk G l cc own nL d C N ini) {x y : Int32} (hd : decode cc pc = .ok (.idiv, 1)) (hne : ¬ y = 0) (kk : zE G T enc Λ k n (pc + 1) L (.int (x / y) :: st) σ e) : zE G T enc Λ k n pc L (.int y :: .int x :: st) σ e := by
  obtain ⟨p, e0, R, s, m, args, below, meth, c, D, cA, b, ext, Q, rfl, hx, hb, hml, hown, hts, hK, hfr, hlo, hC, hN, hini, hbs⟩ := h
  intro r S h1 h2 h3 H locs ls hP hS hl
  exact lv_idiv hx hb hd hne (kk r S h1 h2 h3 H locs ls hP hS hl)
theorem ze_idivG {α : Type} {G : zGT} {l : Launch} {cc : ByteArray} {own : String} {nL d C N : Nat} {ini : Bool} {T : Option Value × zMem} {enc : α → Option Value} {Λ : zLay} {k n pc : Nat} {L : zLs} {st : List Value} {σ : zMem} {e : Option (α × zMem)} (h : zOk G l cc own nL d C N ini) {x y : Int32} (hd : decode cc pc = .ok (.idiv, 1)) (kk : zE G T enc Λ k n (pc + 1) L (.int (x / y) :: st) σ e) : zE G T enc Λ k n pc L (.int y :: .int x :: st) σ (gd (decide (¬ y = 0)) e) := fun r S h1 h2 h3 => ze_idiv h hd (of_decide_eq_true (zgd h1).1) kk r S (zgd h1).2 h2 h3
theorem ze_irem {α : Type} {G : zGT} {l : Launch} {cc : ByteArray} {own : String} {nL d C N : Nat} {ini : Bool} {T : Option Value × zMem} {enc : α → Option Value} {Λ : zLay} {k n pc : Nat} {L : zLs} {st : List Value} {σ : zMem} {e : Option (α × zMem)} (h : zOk G l cc own nL d C N ini) {x y : Int32} (hd : decode cc pc = .ok (.irem, 1)) (hne : ¬ y = 0) (kk : zE G T enc Λ k n (pc + 1) L (.int (zrem x y) :: st) σ e) : zE G T enc Λ k n pc L (.int y :: .int x :: st) σ e := by
  obtain ⟨p, e0, R, s, m, args, below, meth, c, D, cA, b, ext, Q, rfl, hx, hb, hml, hown, hts, hK, hfr, hlo, hC, hN, hini, hbs⟩ := h
  intro r S h1 h2 h3 H locs ls hP hS hl
  exact lv_irem hx hb hd hne (kk r S h1 h2 h3 H locs ls hP hS hl)
theorem ze_iremG {α : Type} {G : zGT} {l : Launch} {cc : ByteArray} {own : String} {nL d C N : Nat} {ini : Bool} {T : Option Value × zMem} {enc : α → Option Value} {Λ : zLay} {k n pc : Nat} {L : zLs} {st : List Value} {σ : zMem} {e : Option (α × zMem)} (h : zOk G l cc own nL d C N ini) {x y : Int32} (hd : decode cc pc = .ok (.irem, 1)) (kk : zE G T enc Λ k n (pc + 1) L (.int (zrem x y) :: st) σ e) : zE G T enc Λ k n pc L (.int y :: .int x :: st) σ (gd (decide (¬ y = 0)) e) := fun r S h1 h2 h3 => ze_irem h hd (of_decide_eq_true (zgd h1).1) kk r S (zgd h1).2 h2 h3
theorem ze_ldiv {α : Type} {G : zGT} {l : Launch} {cc : ByteArray} {own : String} {nL d C N : Nat} {ini : Bool} {T : Option Value × zMem} {enc : α → Option Value} {Λ : zLay} {k n pc : Nat} {L : zLs} {st : List Value} {σ : zMem} {e : Option (α × zMem)} (h : zOk G l cc own nL d C N ini) {x y : Int64} (hd : decode cc pc = .ok (.ldiv, 1)) (hne : ¬ y = 0) (kk : zE G T enc Λ k n (pc + 1) L (.long (x / y) :: st) σ e) : zE G T enc Λ k n pc L (.long y :: .long x :: st) σ e := by
  obtain ⟨p, e0, R, s, m, args, below, meth, c, D, cA, b, ext, Q, rfl, hx, hb, hml, hown, hts, hK, hfr, hlo, hC, hN, hini, hbs⟩ := h
  intro r S h1 h2 h3 H locs ls hP hS hl
  exact lv_ldiv hx hb hd hne (kk r S h1 h2 h3 H locs ls hP hS hl)
theorem ze_ldivG {α : Type} {G : zGT} {l : Launch} {cc : ByteArray} {own : String} {nL d C N : Nat} {ini : Bool} {T : Option Value × zMem} {enc : α → Option Value} {Λ : zLay} {k n pc : Nat} {L : zLs} {st : List Value} {σ : zMem} {e : Option (α × zMem)} (h : zOk G l cc own nL d C N ini) {x y : Int64} (hd : decode cc pc = .ok (.ldiv, 1)) (kk : zE G T enc Λ k n (pc + 1) L (.long (x / y) :: st) σ e) : zE G T enc Λ k n pc L (.long y :: .long x :: st) σ (gd (decide (¬ y = 0)) e) := fun r S h1 h2 h3 => ze_ldiv h hd (of_decide_eq_true (zgd h1).1) kk r S (zgd h1).2 h2 h3
theorem ze_lrem {α : Type} {G : zGT} {l : Launch} {cc : ByteArray} {own : String} {nL d C N : Nat} {ini : Bool} {T : Option Value × zMem} {enc : α → Option Value} {Λ : zLay} {k n pc : Nat} {L : zLs} {st : List Value} {σ : zMem} {e : Option (α × zMem)} (h : zOk G l cc own nL d C N ini) {x y : Int64} (hd : decode cc pc = .ok (.lrem, 1)) (hne : ¬ y = 0) (kk : zE G T enc Λ k n (pc + 1) L (.long (zremL x y) :: st) σ e) : zE G T enc Λ k n pc L (.long y :: .long x :: st) σ e := by
  obtain ⟨p, e0, R, s, m, args, below, meth, c, D, cA, b, ext, Q, rfl, hx, hb, hml, hown, hts, hK, hfr, hlo, hC, hN, hini, hbs⟩ := h
  intro r S h1 h2 h3 H locs ls hP hS hl
  exact lv_lrem hx hb hd hne (kk r S h1 h2 h3 H locs ls hP hS hl)
theorem ze_lremG {α : Type} {G : zGT} {l : Launch} {cc : ByteArray} {own : String} {nL d C N : Nat} {ini : Bool} {T : Option Value × zMem} {enc : α → Option Value} {Λ : zLay} {k n pc : Nat} {L : zLs} {st : List Value} {σ : zMem} {e : Option (α × zMem)} (h : zOk G l cc own nL d C N ini) {x y : Int64} (hd : decode cc pc = .ok (.lrem, 1)) (kk : zE G T enc Λ k n (pc + 1) L (.long (zremL x y) :: st) σ e) : zE G T enc Λ k n pc L (.long y :: .long x :: st) σ (gd (decide (¬ y = 0)) e) := fun r S h1 h2 h3 => ze_lrem h hd (of_decide_eq_true (zgd h1).1) kk r S (zgd h1).2 h2 h3
theorem ze_i2l {α : Type} {G : zGT} {l : Launch} {cc : ByteArray} {own : String} {nL d C N : Nat} {ini : Bool} {T : Option Value × zMem} {enc : α → Option Value} {Λ : zLay} {k n pc : Nat} {L : zLs} {st : List Value} {σ : zMem} {e : Option (α × zMem)} (h : zOk G l cc own nL d C N ini) {x : Int32} (hd : decode cc pc = .ok (.i2l, 1)) (kk : zE G T enc Λ k n (pc + 1) L (.long x.toInt64 :: st) σ e) : zE G T enc Λ k n pc L (.int x :: st) σ e := by
  obtain ⟨p, e0, R, s, m, args, below, meth, c, D, cA, b, ext, Q, rfl, hx, hb, hml, hown, hts, hK, hfr, hlo, hC, hN, hini, hbs⟩ := h
  intro r S h1 h2 h3 H locs ls hP hS hl
  exact lv_i2l hx hb hd rfl (kk r S h1 h2 h3 H locs ls hP hS hl)
theorem ze_l2i {α : Type} {G : zGT} {l : Launch} {cc : ByteArray} {own : String} {nL d C N : Nat} {ini : Bool} {T : Option Value × zMem} {enc : α → Option Value} {Λ : zLay} {k n pc : Nat} {L : zLs} {st : List Value} {σ : zMem} {e : Option (α × zMem)} (h : zOk G l cc own nL d C N ini) {x : Int64} (hd : decode cc pc = .ok (.l2i, 1)) (kk : zE G T enc Λ k n (pc + 1) L (.int x.toInt32 :: st) σ e) : zE G T enc Λ k n pc L (.long x :: st) σ e := by
  obtain ⟨p, e0, R, s, m, args, below, meth, c, D, cA, b, ext, Q, rfl, hx, hb, hml, hown, hts, hK, hfr, hlo, hC, hN, hini, hbs⟩ := h
  intro r S h1 h2 h3 H locs ls hP hS hl
  exact lv_l2i hx hb hd rfl (kk r S h1 h2 h3 H locs ls hP hS hl)
theorem ze_i2b {α : Type} {G : zGT} {l : Launch} {cc : ByteArray} {own : String} {nL d C N : Nat} {ini : Bool} {T : Option Value × zMem} {enc : α → Option Value} {Λ : zLay} {k n pc : Nat} {L : zLs} {st : List Value} {σ : zMem} {e : Option (α × zMem)} (h : zOk G l cc own nL d C N ini) {x : Int32} (hd : decode cc pc = .ok (.i2b, 1)) (kk : zE G T enc Λ k n (pc + 1) L (.int x.toInt8.toInt32 :: st) σ e) : zE G T enc Λ k n pc L (.int x :: st) σ e := by
  obtain ⟨p, e0, R, s, m, args, below, meth, c, D, cA, b, ext, Q, rfl, hx, hb, hml, hown, hts, hK, hfr, hlo, hC, hN, hini, hbs⟩ := h
  intro r S h1 h2 h3 H locs ls hP hS hl
  exact lv_i2b hx hb hd rfl (kk r S h1 h2 h3 H locs ls hP hS hl)
theorem ze_i2s {α : Type} {G : zGT} {l : Launch} {cc : ByteArray} {own : String} {nL d C N : Nat} {ini : Bool} {T : Option Value × zMem} {enc : α → Option Value} {Λ : zLay} {k n pc : Nat} {L : zLs} {st : List Value} {σ : zMem} {e : Option (α × zMem)} (h : zOk G l cc own nL d C N ini) {x : Int32} (hd : decode cc pc = .ok (.i2s, 1)) (kk : zE G T enc Λ k n (pc + 1) L (.int x.toInt16.toInt32 :: st) σ e) : zE G T enc Λ k n pc L (.int x :: st) σ e := by
  obtain ⟨p, e0, R, s, m, args, below, meth, c, D, cA, b, ext, Q, rfl, hx, hb, hml, hown, hts, hK, hfr, hlo, hC, hN, hini, hbs⟩ := h
  intro r S h1 h2 h3 H locs ls hP hS hl
  exact lv_i2s hx hb hd rfl (kk r S h1 h2 h3 H locs ls hP hS hl)
theorem ze_i2c {α : Type} {G : zGT} {l : Launch} {cc : ByteArray} {own : String} {nL d C N : Nat} {ini : Bool} {T : Option Value × zMem} {enc : α → Option Value} {Λ : zLay} {k n pc : Nat} {L : zLs} {st : List Value} {σ : zMem} {e : Option (α × zMem)} (h : zOk G l cc own nL d C N ini) {x : Int32} (hd : decode cc pc = .ok (.i2c, 1)) (kk : zE G T enc Λ k n (pc + 1) L (.int (x.toUInt32 % 65536).toInt32 :: st) σ e) : zE G T enc Λ k n pc L (.int x :: st) σ e := by
  obtain ⟨p, e0, R, s, m, args, below, meth, c, D, cA, b, ext, Q, rfl, hx, hb, hml, hown, hts, hK, hfr, hlo, hC, hN, hini, hbs⟩ := h
  intro r S h1 h2 h3 H locs ls hP hS hl
  exact lv_i2c hx hb hd rfl (kk r S h1 h2 h3 H locs ls hP hS hl)
theorem ze_lcmp {α : Type} {G : zGT} {l : Launch} {cc : ByteArray} {own : String} {nL d C N : Nat} {ini : Bool} {T : Option Value × zMem} {enc : α → Option Value} {Λ : zLay} {k n pc : Nat} {L : zLs} {st : List Value} {σ : zMem} {e : Option (α × zMem)} (h : zOk G l cc own nL d C N ini) {x y : Int64} (hd : decode cc pc = .ok (.lcmp, 1)) (kk : zE G T enc Λ k n (pc + 1) L (.int (lg_cmp x y) :: st) σ e) : zE G T enc Λ k n pc L (.long y :: .long x :: st) σ e := by
  obtain ⟨p, e0, R, s, m, args, below, meth, c, D, cA, b, ext, Q, rfl, hx, hb, hml, hown, hts, hK, hfr, hlo, hC, hN, hini, hbs⟩ := h
  intro r S h1 h2 h3 H locs ls hP hS hl
  exact W.lcmp hx hb hd (kk r S h1 h2 h3 H locs ls hP hS hl)
theorem ze_dup {α : Type} {G : zGT} {l : Launch} {cc : ByteArray} {own : String} {nL d C N : Nat} {ini : Bool} {T : Option Value × zMem} {enc : α → Option Value} {Λ : zLay} {k n pc : Nat} {L : zLs} {st : List Value} {σ : zMem} {e : Option (α × zMem)} (h : zOk G l cc own nL d C N ini) {v : Value} (hd : decode cc pc = .ok (.dup, 1)) (hv : v.category = 1) (kk : zE G T enc Λ k n (pc + 1) L (v :: v :: st) σ e) : zE G T enc Λ k n pc L (v :: st) σ e := by
  obtain ⟨p, e0, R, s, m, args, below, meth, c, D, cA, b, ext, Q, rfl, hx, hb, hml, hown, hts, hK, hfr, hlo, hC, hN, hini, hbs⟩ := h
  intro r S h1 h2 h3 H locs ls hP hS hl
  exact lv_dup hx hb hd (by rw [zV_cat]; exact hv) (kk r S h1 h2 h3 H locs ls hP hS hl)
theorem ze_dup2 {α : Type} {G : zGT} {l : Launch} {cc : ByteArray} {own : String} {nL d C N : Nat} {ini : Bool} {T : Option Value × zMem} {enc : α → Option Value} {Λ : zLay} {k n pc : Nat} {L : zLs} {st : List Value} {σ : zMem} {e : Option (α × zMem)} (h : zOk G l cc own nL d C N ini) {v w : Value} (hd : decode cc pc = .ok (.dup2, 1)) (hv : v.category = 1) (hw : w.category = 1) (kk : zE G T enc Λ k n (pc + 1) L (v :: w :: v :: w :: st) σ e) : zE G T enc Λ k n pc L (v :: w :: st) σ e := by
  obtain ⟨p, e0, R, s, m, args, below, meth, c, D, cA, b, ext, Q, rfl, hx, hb, hml, hown, hts, hK, hfr, hlo, hC, hN, hini, hbs⟩ := h
  intro r S h1 h2 h3 H locs ls hP hS hl
  exact lv_dup2_11 hx hb hd (by rw [zV_cat]; exact hv) (by rw [zV_cat]; exact hw) (kk r S h1 h2 h3 H locs ls hP hS hl)
theorem ze_pop {α : Type} {G : zGT} {l : Launch} {cc : ByteArray} {own : String} {nL d C N : Nat} {ini : Bool} {T : Option Value × zMem} {enc : α → Option Value} {Λ : zLay} {k n pc : Nat} {L : zLs} {st : List Value} {σ : zMem} {e : Option (α × zMem)} (h : zOk G l cc own nL d C N ini) {v : Value} (hd : decode cc pc = .ok (.pop, 1)) (hv : v.category = 1) (kk : zE G T enc Λ k n (pc + 1) L st σ e) : zE G T enc Λ k n pc L (v :: st) σ e := by
  obtain ⟨p, e0, R, s, m, args, below, meth, c, D, cA, b, ext, Q, rfl, hx, hb, hml, hown, hts, hK, hfr, hlo, hC, hN, hini, hbs⟩ := h
  intro r S h1 h2 h3 H locs ls hP hS hl
  exact lv_pop hx hb hd (by rw [zV_cat]; exact hv) (kk r S h1 h2 h3 H locs ls hP hS hl)
theorem ze_goto {α : Type} {G : zGT} {l : Launch} {cc : ByteArray} {own : String} {nL d C N : Nat} {ini : Bool} {T : Option Value × zMem} {enc : α → Option Value} {Λ : zLay} {k n pc : Nat} {L : zLs} {st : List Value} {σ : zMem} {e : Option (α × zMem)} (h : zOk G l cc own nL d C N ini) {off : Int} (tgt : Nat) (hd : decode cc pc = .ok (.goto off, 3)) (ht : (pc : Int) + off = (tgt : Int)) (kk : zE G T enc Λ k n tgt L st σ e) : zE G T enc Λ k n pc L st σ e := by
  obtain ⟨p, e0, R, s, m, args, below, meth, c, D, cA, b, ext, Q, rfl, hx, hb, hml, hown, hts, hK, hfr, hlo, hC, hN, hini, hbs⟩ := h
  intro r S h1 h2 h3 H locs ls hP hS hl
  exact lv_goto hx hb hd ht (kk r S h1 h2 h3 H locs ls hP hS hl)
theorem ze_icmp_eq {α : Type} {G : zGT} {l : Launch} {cc : ByteArray} {own : String} {nL d C N : Nat} {ini : Bool} {T : Option Value × zMem} {enc : α → Option Value} {Λ : zLay} {k n pc : Nat} {L : zLs} {st : List Value} {σ : zMem} {e1 e2 : Option (α × zMem)} (h : zOk G l cc own nL d C N ini) {x y : Int32} {off : Int} (tgt : Nat) (hd : decode cc pc = .ok (.if_icmp .eq off, 3)) (ht : (pc : Int) + off = (tgt : Int)) (k1 : zE G T enc Λ k n tgt L st σ e1) (k2 : zE G T enc Λ k n (pc + 3) L st σ e2) : zE G T enc Λ k n pc L (.int y :: .int x :: st) σ (if x = y then e1 else e2) := by
  obtain ⟨p, e0, R, s, m, args, below, meth, c, D, cA, b, ext, Q, rfl, hx, hb, hml, hown, hts, hK, hfr, hlo, hC, hN, hini, hbs⟩ := h
  intro r S h1 h2 h3 H locs ls hP hS hl
  exact lv_icmp_eq hx hb hd ht (fun q => k1 r S (by rw [if_pos q] at h1; exact h1) h2 h3 H locs ls hP hS hl) (fun q => k2 r S (by rw [if_neg q] at h1; exact h1) h2 h3 H locs ls hP hS hl)
theorem ze_icmp_ne {α : Type} {G : zGT} {l : Launch} {cc : ByteArray} {own : String} {nL d C N : Nat} {ini : Bool} {T : Option Value × zMem} {enc : α → Option Value} {Λ : zLay} {k n pc : Nat} {L : zLs} {st : List Value} {σ : zMem} {e1 e2 : Option (α × zMem)} (h : zOk G l cc own nL d C N ini) {x y : Int32} {off : Int} (tgt : Nat) (hd : decode cc pc = .ok (.if_icmp .ne off, 3)) (ht : (pc : Int) + off = (tgt : Int)) (k1 : zE G T enc Λ k n tgt L st σ e2) (k2 : zE G T enc Λ k n (pc + 3) L st σ e1) : zE G T enc Λ k n pc L (.int y :: .int x :: st) σ (if x = y then e1 else e2) := by
  obtain ⟨p, e0, R, s, m, args, below, meth, c, D, cA, b, ext, Q, rfl, hx, hb, hml, hown, hts, hK, hfr, hlo, hC, hN, hini, hbs⟩ := h
  intro r S h1 h2 h3 H locs ls hP hS hl
  exact lv_icmp_ne hx hb hd ht (fun q => k1 r S (by rw [if_neg q] at h1; exact h1) h2 h3 H locs ls hP hS hl) (fun q => k2 r S (by rw [if_pos q] at h1; exact h1) h2 h3 H locs ls hP hS hl)
theorem ze_icmp_lt {α : Type} {G : zGT} {l : Launch} {cc : ByteArray} {own : String} {nL d C N : Nat} {ini : Bool} {T : Option Value × zMem} {enc : α → Option Value} {Λ : zLay} {k n pc : Nat} {L : zLs} {st : List Value} {σ : zMem} {e1 e2 : Option (α × zMem)} (h : zOk G l cc own nL d C N ini) {x y : Int32} {off : Int} (tgt : Nat) (hd : decode cc pc = .ok (.if_icmp .lt off, 3)) (ht : (pc : Int) + off = (tgt : Int)) (k1 : zE G T enc Λ k n tgt L st σ e1) (k2 : zE G T enc Λ k n (pc + 3) L st σ e2) : zE G T enc Λ k n pc L (.int y :: .int x :: st) σ (if x < y then e1 else e2) := by
  obtain ⟨p, e0, R, s, m, args, below, meth, c, D, cA, b, ext, Q, rfl, hx, hb, hml, hown, hts, hK, hfr, hlo, hC, hN, hini, hbs⟩ := h
  intro r S h1 h2 h3 H locs ls hP hS hl
  exact lv_icmp_lt hx hb hd ht (fun q => k1 r S (by rw [if_pos q] at h1; exact h1) h2 h3 H locs ls hP hS hl) (fun q => k2 r S (by rw [if_neg q] at h1; exact h1) h2 h3 H locs ls hP hS hl)
theorem ze_icmp_ge {α : Type} {G : zGT} {l : Launch} {cc : ByteArray} {own : String} {nL d C N : Nat} {ini : Bool} {T : Option Value × zMem} {enc : α → Option Value} {Λ : zLay} {k n pc : Nat} {L : zLs} {st : List Value} {σ : zMem} {e1 e2 : Option (α × zMem)} (h : zOk G l cc own nL d C N ini) {x y : Int32} {off : Int} (tgt : Nat) (hd : decode cc pc = .ok (.if_icmp .ge off, 3)) (ht : (pc : Int) + off = (tgt : Int)) (k1 : zE G T enc Λ k n tgt L st σ e1) (k2 : zE G T enc Λ k n (pc + 3) L st σ e2) : zE G T enc Λ k n pc L (.int y :: .int x :: st) σ (if y ≤ x then e1 else e2) := by
  obtain ⟨p, e0, R, s, m, args, below, meth, c, D, cA, b, ext, Q, rfl, hx, hb, hml, hown, hts, hK, hfr, hlo, hC, hN, hini, hbs⟩ := h
  intro r S h1 h2 h3 H locs ls hP hS hl
  exact lv_icmp_ge hx hb hd ht (fun q => k1 r S (by rw [if_pos q] at h1; exact h1) h2 h3 H locs ls hP hS hl) (fun q => k2 r S (by rw [if_neg q] at h1; exact h1) h2 h3 H locs ls hP hS hl)
theorem ze_icmp_gt {α : Type} {G : zGT} {l : Launch} {cc : ByteArray} {own : String} {nL d C N : Nat} {ini : Bool} {T : Option Value × zMem} {enc : α → Option Value} {Λ : zLay} {k n pc : Nat} {L : zLs} {st : List Value} {σ : zMem} {e1 e2 : Option (α × zMem)} (h : zOk G l cc own nL d C N ini) {x y : Int32} {off : Int} (tgt : Nat) (hd : decode cc pc = .ok (.if_icmp .gt off, 3)) (ht : (pc : Int) + off = (tgt : Int)) (k1 : zE G T enc Λ k n tgt L st σ e1) (k2 : zE G T enc Λ k n (pc + 3) L st σ e2) : zE G T enc Λ k n pc L (.int y :: .int x :: st) σ (if y < x then e1 else e2) := by
  obtain ⟨p, e0, R, s, m, args, below, meth, c, D, cA, b, ext, Q, rfl, hx, hb, hml, hown, hts, hK, hfr, hlo, hC, hN, hini, hbs⟩ := h
  intro r S h1 h2 h3 H locs ls hP hS hl
  exact lv_icmp_gt hx hb hd ht (fun q => k1 r S (by rw [if_pos q] at h1; exact h1) h2 h3 H locs ls hP hS hl) (fun q => k2 r S (by rw [if_neg q] at h1; exact h1) h2 h3 H locs ls hP hS hl)
theorem ze_icmp_le {α : Type} {G : zGT} {l : Launch} {cc : ByteArray} {own : String} {nL d C N : Nat} {ini : Bool} {T : Option Value × zMem} {enc : α → Option Value} {Λ : zLay} {k n pc : Nat} {L : zLs} {st : List Value} {σ : zMem} {e1 e2 : Option (α × zMem)} (h : zOk G l cc own nL d C N ini) {x y : Int32} {off : Int} (tgt : Nat) (hd : decode cc pc = .ok (.if_icmp .le off, 3)) (ht : (pc : Int) + off = (tgt : Int)) (k1 : zE G T enc Λ k n tgt L st σ e1) (k2 : zE G T enc Λ k n (pc + 3) L st σ e2) : zE G T enc Λ k n pc L (.int y :: .int x :: st) σ (if x ≤ y then e1 else e2) := by
  obtain ⟨p, e0, R, s, m, args, below, meth, c, D, cA, b, ext, Q, rfl, hx, hb, hml, hown, hts, hK, hfr, hlo, hC, hN, hini, hbs⟩ := h
  intro r S h1 h2 h3 H locs ls hP hS hl
  exact lv_icmp_le hx hb hd ht (fun q => k1 r S (by rw [if_pos q] at h1; exact h1) h2 h3 H locs ls hP hS hl) (fun q => k2 r S (by rw [if_neg q] at h1; exact h1) h2 h3 H locs ls hP hS hl)
theorem ze_if_eq {α : Type} {G : zGT} {l : Launch} {cc : ByteArray} {own : String} {nL d C N : Nat} {ini : Bool} {T : Option Value × zMem} {enc : α → Option Value} {Λ : zLay} {k n pc : Nat} {L : zLs} {st : List Value} {σ : zMem} {e1 e2 : Option (α × zMem)} (h : zOk G l cc own nL d C N ini) {x : Int32} {off : Int} (tgt : Nat) (hd : decode cc pc = .ok (.ifCond .eq off, 3)) (ht : (pc : Int) + off = (tgt : Int)) (k1 : zE G T enc Λ k n tgt L st σ e1) (k2 : zE G T enc Λ k n (pc + 3) L st σ e2) : zE G T enc Λ k n pc L (.int x :: st) σ (if x = 0 then e1 else e2) := by
  obtain ⟨p, e0, R, s, m, args, below, meth, c, D, cA, b, ext, Q, rfl, hx, hb, hml, hown, hts, hK, hfr, hlo, hC, hN, hini, hbs⟩ := h
  intro r S h1 h2 h3 H locs ls hP hS hl
  exact lv_if_eq hx hb hd ht (fun q => k1 r S (by rw [if_pos q] at h1; exact h1) h2 h3 H locs ls hP hS hl) (fun q => k2 r S (by rw [if_neg q] at h1; exact h1) h2 h3 H locs ls hP hS hl)
theorem ze_if_ne {α : Type} {G : zGT} {l : Launch} {cc : ByteArray} {own : String} {nL d C N : Nat} {ini : Bool} {T : Option Value × zMem} {enc : α → Option Value} {Λ : zLay} {k n pc : Nat} {L : zLs} {st : List Value} {σ : zMem} {e1 e2 : Option (α × zMem)} (h : zOk G l cc own nL d C N ini) {x : Int32} {off : Int} (tgt : Nat) (hd : decode cc pc = .ok (.ifCond .ne off, 3)) (ht : (pc : Int) + off = (tgt : Int)) (k1 : zE G T enc Λ k n tgt L st σ e2) (k2 : zE G T enc Λ k n (pc + 3) L st σ e1) : zE G T enc Λ k n pc L (.int x :: st) σ (if x = 0 then e1 else e2) := by
  obtain ⟨p, e0, R, s, m, args, below, meth, c, D, cA, b, ext, Q, rfl, hx, hb, hml, hown, hts, hK, hfr, hlo, hC, hN, hini, hbs⟩ := h
  intro r S h1 h2 h3 H locs ls hP hS hl
  exact lv_if_ne hx hb hd ht (fun q => k1 r S (by rw [if_neg q] at h1; exact h1) h2 h3 H locs ls hP hS hl) (fun q => k2 r S (by rw [if_pos q] at h1; exact h1) h2 h3 H locs ls hP hS hl)
theorem ze_if_lt {α : Type} {G : zGT} {l : Launch} {cc : ByteArray} {own : String} {nL d C N : Nat} {ini : Bool} {T : Option Value × zMem} {enc : α → Option Value} {Λ : zLay} {k n pc : Nat} {L : zLs} {st : List Value} {σ : zMem} {e1 e2 : Option (α × zMem)} (h : zOk G l cc own nL d C N ini) {x : Int32} {off : Int} (tgt : Nat) (hd : decode cc pc = .ok (.ifCond .lt off, 3)) (ht : (pc : Int) + off = (tgt : Int)) (k1 : zE G T enc Λ k n tgt L st σ e1) (k2 : zE G T enc Λ k n (pc + 3) L st σ e2) : zE G T enc Λ k n pc L (.int x :: st) σ (if x < 0 then e1 else e2) := by
  obtain ⟨p, e0, R, s, m, args, below, meth, c, D, cA, b, ext, Q, rfl, hx, hb, hml, hown, hts, hK, hfr, hlo, hC, hN, hini, hbs⟩ := h
  intro r S h1 h2 h3 H locs ls hP hS hl
  exact lv_if_lt hx hb hd ht (fun q => k1 r S (by rw [if_pos q] at h1; exact h1) h2 h3 H locs ls hP hS hl) (fun q => k2 r S (by rw [if_neg q] at h1; exact h1) h2 h3 H locs ls hP hS hl)
theorem ze_if_ge {α : Type} {G : zGT} {l : Launch} {cc : ByteArray} {own : String} {nL d C N : Nat} {ini : Bool} {T : Option Value × zMem} {enc : α → Option Value} {Λ : zLay} {k n pc : Nat} {L : zLs} {st : List Value} {σ : zMem} {e1 e2 : Option (α × zMem)} (h : zOk G l cc own nL d C N ini) {x : Int32} {off : Int} (tgt : Nat) (hd : decode cc pc = .ok (.ifCond .ge off, 3)) (ht : (pc : Int) + off = (tgt : Int)) (k1 : zE G T enc Λ k n tgt L st σ e1) (k2 : zE G T enc Λ k n (pc + 3) L st σ e2) : zE G T enc Λ k n pc L (.int x :: st) σ (if 0 ≤ x then e1 else e2) := by
  obtain ⟨p, e0, R, s, m, args, below, meth, c, D, cA, b, ext, Q, rfl, hx, hb, hml, hown, hts, hK, hfr, hlo, hC, hN, hini, hbs⟩ := h
  intro r S h1 h2 h3 H locs ls hP hS hl
  exact lv_if_ge hx hb hd ht (fun q => k1 r S (by rw [if_pos q] at h1; exact h1) h2 h3 H locs ls hP hS hl) (fun q => k2 r S (by rw [if_neg q] at h1; exact h1) h2 h3 H locs ls hP hS hl)
theorem ze_if_gt {α : Type} {G : zGT} {l : Launch} {cc : ByteArray} {own : String} {nL d C N : Nat} {ini : Bool} {T : Option Value × zMem} {enc : α → Option Value} {Λ : zLay} {k n pc : Nat} {L : zLs} {st : List Value} {σ : zMem} {e1 e2 : Option (α × zMem)} (h : zOk G l cc own nL d C N ini) {x : Int32} {off : Int} (tgt : Nat) (hd : decode cc pc = .ok (.ifCond .gt off, 3)) (ht : (pc : Int) + off = (tgt : Int)) (k1 : zE G T enc Λ k n tgt L st σ e1) (k2 : zE G T enc Λ k n (pc + 3) L st σ e2) : zE G T enc Λ k n pc L (.int x :: st) σ (if 0 < x then e1 else e2) := by
  obtain ⟨p, e0, R, s, m, args, below, meth, c, D, cA, b, ext, Q, rfl, hx, hb, hml, hown, hts, hK, hfr, hlo, hC, hN, hini, hbs⟩ := h
  intro r S h1 h2 h3 H locs ls hP hS hl
  exact lv_if_gt hx hb hd ht (fun q => k1 r S (by rw [if_pos q] at h1; exact h1) h2 h3 H locs ls hP hS hl) (fun q => k2 r S (by rw [if_neg q] at h1; exact h1) h2 h3 H locs ls hP hS hl)
theorem ze_if_le {α : Type} {G : zGT} {l : Launch} {cc : ByteArray} {own : String} {nL d C N : Nat} {ini : Bool} {T : Option Value × zMem} {enc : α → Option Value} {Λ : zLay} {k n pc : Nat} {L : zLs} {st : List Value} {σ : zMem} {e1 e2 : Option (α × zMem)} (h : zOk G l cc own nL d C N ini) {x : Int32} {off : Int} (tgt : Nat) (hd : decode cc pc = .ok (.ifCond .le off, 3)) (ht : (pc : Int) + off = (tgt : Int)) (k1 : zE G T enc Λ k n tgt L st σ e1) (k2 : zE G T enc Λ k n (pc + 3) L st σ e2) : zE G T enc Λ k n pc L (.int x :: st) σ (if x ≤ 0 then e1 else e2) := by
  obtain ⟨p, e0, R, s, m, args, below, meth, c, D, cA, b, ext, Q, rfl, hx, hb, hml, hown, hts, hK, hfr, hlo, hC, hN, hini, hbs⟩ := h
  intro r S h1 h2 h3 H locs ls hP hS hl
  exact lv_if_le hx hb hd ht (fun q => k1 r S (by rw [if_pos q] at h1; exact h1) h2 h3 H locs ls hP hS hl) (fun q => k2 r S (by rw [if_neg q] at h1; exact h1) h2 h3 H locs ls hP hS hl)
theorem ze_if_eqT {α : Type} {G : zGT} {l : Launch} {cc : ByteArray} {own : String} {nL d C N : Nat} {ini : Bool} {T : Option Value × zMem} {enc : α → Option Value} {Λ : zLay} {k n pc : Nat} {L : zLs} {st : List Value} {σ : zMem} {e : Option (α × zMem)} (h : zOk G l cc own nL d C N ini) {x : Int32} {off : Int} (tgt : Nat) (hd : decode cc pc = .ok (.ifCond .eq off, 3)) (ht : (pc : Int) + off = (tgt : Int)) (hq : x = 0) (kk : zE G T enc Λ k n tgt L st σ e) : zE G T enc Λ k n pc L (.int x :: st) σ e := by
  obtain ⟨p, e0, R, s, m, args, below, meth, c, D, cA, b, ext, Q, rfl, hx, hb, hml, hown, hts, hK, hfr, hlo, hC, hN, hini, hbs⟩ := h
  intro r S h1 h2 h3 H locs ls hP hS hl
  exact lv_if_eq hx hb hd ht (fun _ => kk r S h1 h2 h3 H locs ls hP hS hl) (fun z => absurd hq z)
theorem ze_if_eqF {α : Type} {G : zGT} {l : Launch} {cc : ByteArray} {own : String} {nL d C N : Nat} {ini : Bool} {T : Option Value × zMem} {enc : α → Option Value} {Λ : zLay} {k n pc : Nat} {L : zLs} {st : List Value} {σ : zMem} {e : Option (α × zMem)} (h : zOk G l cc own nL d C N ini) {x : Int32} {off : Int} (tgt : Nat) (hd : decode cc pc = .ok (.ifCond .eq off, 3)) (ht : (pc : Int) + off = (tgt : Int)) (hq : ¬ x = 0) (kk : zE G T enc Λ k n (pc + 3) L st σ e) : zE G T enc Λ k n pc L (.int x :: st) σ e := by
  obtain ⟨p, e0, R, s, m, args, below, meth, c, D, cA, b, ext, Q, rfl, hx, hb, hml, hown, hts, hK, hfr, hlo, hC, hN, hini, hbs⟩ := h
  intro r S h1 h2 h3 H locs ls hP hS hl
  exact lv_if_eq hx hb hd ht (fun z => absurd z hq) (fun _ => kk r S h1 h2 h3 H locs ls hP hS hl)
theorem ze_if_neT {α : Type} {G : zGT} {l : Launch} {cc : ByteArray} {own : String} {nL d C N : Nat} {ini : Bool} {T : Option Value × zMem} {enc : α → Option Value} {Λ : zLay} {k n pc : Nat} {L : zLs} {st : List Value} {σ : zMem} {e : Option (α × zMem)} (h : zOk G l cc own nL d C N ini) {x : Int32} {off : Int} (tgt : Nat) (hd : decode cc pc = .ok (.ifCond .ne off, 3)) (ht : (pc : Int) + off = (tgt : Int)) (hq : ¬ x = 0) (kk : zE G T enc Λ k n tgt L st σ e) : zE G T enc Λ k n pc L (.int x :: st) σ e := by
  obtain ⟨p, e0, R, s, m, args, below, meth, c, D, cA, b, ext, Q, rfl, hx, hb, hml, hown, hts, hK, hfr, hlo, hC, hN, hini, hbs⟩ := h
  intro r S h1 h2 h3 H locs ls hP hS hl
  exact lv_if_ne hx hb hd ht (fun _ => kk r S h1 h2 h3 H locs ls hP hS hl) (fun z => absurd z hq)
theorem ze_if_neF {α : Type} {G : zGT} {l : Launch} {cc : ByteArray} {own : String} {nL d C N : Nat} {ini : Bool} {T : Option Value × zMem} {enc : α → Option Value} {Λ : zLay} {k n pc : Nat} {L : zLs} {st : List Value} {σ : zMem} {e : Option (α × zMem)} (h : zOk G l cc own nL d C N ini) {x : Int32} {off : Int} (tgt : Nat) (hd : decode cc pc = .ok (.ifCond .ne off, 3)) (ht : (pc : Int) + off = (tgt : Int)) (hq : x = 0) (kk : zE G T enc Λ k n (pc + 3) L st σ e) : zE G T enc Λ k n pc L (.int x :: st) σ e := by
  obtain ⟨p, e0, R, s, m, args, below, meth, c, D, cA, b, ext, Q, rfl, hx, hb, hml, hown, hts, hK, hfr, hlo, hC, hN, hini, hbs⟩ := h
  intro r S h1 h2 h3 H locs ls hP hS hl
  exact lv_if_ne hx hb hd ht (fun z => absurd hq z) (fun _ => kk r S h1 h2 h3 H locs ls hP hS hl)
theorem ze_case {α : Type} {G : zGT} {T : Option Value × zMem} {enc : α → Option Value} {Λ : zLay} {k n pc : Nat} {L : zLs} {st : List Value} {σ : zMem} {e1 e2 : Option (α × zMem)} {x : Int32} (v : Int32) (k1 : x = v → zE G T enc Λ k n pc L (.int v :: st) σ e1) (k2 : ¬ x = v → zE G T enc Λ k n pc L (.int x :: st) σ e2) : zE G T enc Λ k n pc L (.int x :: st) σ (if x = v then e1 else e2) := by
  intro r S h1 h2 h3
  by_cases q : x = v
  · rw [if_pos q] at h1
    have := k1 q r S h1 h2 h3
    rw [q]
    exact this
  · rw [if_neg q] at h1
    exact k2 q r S h1 h2 h3
theorem ze_tabIn {α : Type} {G : zGT} {l : Launch} {cc : ByteArray} {own : String} {nL d C N : Nat} {ini : Bool} {T : Option Value × zMem} {enc : α → Option Value} {Λ : zLay} {k n pc : Nat} {L : zLs} {st : List Value} {σ : zMem} {e : Option (α × zMem)} (h : zOk G l cc own nL d C N ini) {x : Int32} {dflt lo hi off : Int} {offs : Array Int} {len : Nat} (tgt : Nat) (hd : decode cc pc = .ok (.tableswitch dflt lo hi offs, len)) (w1 : ¬ x.toInt < lo) (w2 : ¬ hi < x.toInt) (ho : offs[(x.toInt - lo).toNat]? = some off) (ht : (pc : Int) + off = (tgt : Int)) (kk : zE G T enc Λ k n tgt L st σ e) : zE G T enc Λ k n pc L (.int x :: st) σ e := by
  obtain ⟨p, e0, R, s, m, args, below, meth, c, D, cA, b, ext, Q, rfl, hx, hb, hml, hown, hts, hK, hfr, hlo, hC, hN, hini, hbs⟩ := h
  intro r S h1 h2 h3 H locs ls hP hS hl
  exact lv_tableIn hx hb hd w1 w2 ho ht (kk r S h1 h2 h3 H locs ls hP hS hl)
theorem ze_tabOut {α : Type} {G : zGT} {l : Launch} {cc : ByteArray} {own : String} {nL d C N : Nat} {ini : Bool} {T : Option Value × zMem} {enc : α → Option Value} {Λ : zLay} {k n pc : Nat} {L : zLs} {st : List Value} {σ : zMem} {e : Option (α × zMem)} (h : zOk G l cc own nL d C N ini) {x : Int32} {dflt lo hi : Int} {offs : Array Int} {len : Nat} (tgt : Nat) (hd : decode cc pc = .ok (.tableswitch dflt lo hi offs, len)) (w : x.toInt < lo ∨ hi < x.toInt) (ht : (pc : Int) + dflt = (tgt : Int)) (kk : zE G T enc Λ k n tgt L st σ e) : zE G T enc Λ k n pc L (.int x :: st) σ e := by
  obtain ⟨p, e0, R, s, m, args, below, meth, c, D, cA, b, ext, Q, rfl, hx, hb, hml, hown, hts, hK, hfr, hlo, hC, hN, hini, hbs⟩ := h
  intro r S h1 h2 h3 H locs ls hP hS hl
  exact lv_tableOut hx hb hd w ht (kk r S h1 h2 h3 H locs ls hP hS hl)
theorem ze_lookup {α : Type} {G : zGT} {l : Launch} {cc : ByteArray} {own : String} {nL d C N : Nat} {ini : Bool} {T : Option Value × zMem} {enc : α → Option Value} {Λ : zLay} {k n pc : Nat} {L : zLs} {st : List Value} {σ : zMem} {e : Option (α × zMem)} (h : zOk G l cc own nL d C N ini) {x : Int32} {dflt off : Int} {ps : Array (Int × Int)} {len : Nat} (tgt : Nat) (hd : decode cc pc = .ok (.lookupswitch dflt ps, len)) (hp : (ps.toList.zip (ps.toList.drop 1)).all (fun (a, next) => a.1 < next.1) = true) (ho : Op.lookupswitch.offset ps.toList dflt x.toInt = off) (ht : (pc : Int) + off = (tgt : Int)) (kk : zE G T enc Λ k n tgt L st σ e) : zE G T enc Λ k n pc L (.int x :: st) σ e := by
  obtain ⟨p, e0, R, s, m, args, below, meth, c, D, cA, b, ext, Q, rfl, hx, hb, hml, hown, hts, hK, hfr, hlo, hC, hN, hini, hbs⟩ := h
  intro r S h1 h2 h3 H locs ls hP hS hl
  exact lv_lookup hx hb hd hp ho ht (kk r S h1 h2 h3 H locs ls hP hS hl)
theorem ze_nm {α β : Type} {G : zGT} {T : Option Value × zMem} {enc : α → Option Value} {Λ : zLay} {k n pc : Nat} {L : zLs} {st : List Value} {σ : zMem} {e : β → Option (α × zMem)} {v : β} (g : β → zMem × zLs × List Value) (hg : g v = (σ, L, st)) (kk : ∀ x : β, zE G T enc Λ k n pc (g x).2.1 (g x).2.2 (g x).1 (e x)) : zE G T enc Λ k n pc L st σ (nm v e) := by
  have := kk v
  rw [hg] at this
  exact this
theorem ze_nmS {α : Type} {G : zGT} {T : Option Value × zMem} {enc : α → Option Value} {Λ : zLay} {k n pc : Nat} {L : zLs} {st : List Value} {σ : zMem} {e : zMem → Option (α × zMem)} (kk : ∀ s : zMem, zE G T enc Λ k n pc L st s (e s)) : zE G T enc Λ k n pc L st σ (nm σ e) := kk σ
theorem ze_nmT {α β : Type} {G : zGT} {T : Option Value × zMem} {enc : α → Option Value} {Λ : zLay} {k n pc : Nat} {L : zLs} {st : List Value} {σ : zMem} {e : β → Option (α × zMem)} {v : β} (w : β → Value) (kk : ∀ x : β, zE G T enc Λ k n pc L (w x :: st) σ (e x)) : zE G T enc Λ k n pc L (w v :: st) σ (nm v e) := kk v
theorem ze_nmI {α : Type} {G : zGT} {T : Option Value × zMem} {enc : α → Option Value} {Λ : zLay} {k n pc : Nat} {L : zLs} {st : List Value} {σ : zMem} {e : Int32 → Option (α × zMem)} {v : Int32} (kk : ∀ x : Int32, zE G T enc Λ k n pc L (.int x :: st) σ (e x)) : zE G T enc Λ k n pc L (.int v :: st) σ (nm v e) := kk v
theorem ze_nmL {α : Type} {G : zGT} {T : Option Value × zMem} {enc : α → Option Value} {Λ : zLay} {k n pc : Nat} {L : zLs} {st : List Value} {σ : zMem} {e : Int64 → Option (α × zMem)} {v : Int64} (kk : ∀ x : Int64, zE G T enc Λ k n pc L (.long x :: st) σ (e x)) : zE G T enc Λ k n pc L (.long v :: st) σ (nm v e) := kk v
theorem ze_iret {G : zGT} {T : Option Value × zMem} {cc : ByteArray} {Λ : zLay} {k n pc : Nat} {L : zLs} {σ : zMem} {x : Int32} (hR : zR G cc (some .int) T Λ k n) (hd : decode cc pc = .ok (.ireturn, 1)) : zE G T (fun r : Int32 => some (.int r)) Λ k n pc L [.int x] σ (some (x, σ)) := by
  intro r S h1 h2 h3
  cases h1
  rw [h3]
  exact hR.1 pc L x .int hd rfl rfl h2.symm
theorem ze_zret {G : zGT} {T : Option Value × zMem} {cc : ByteArray} {Λ : zLay} {k n pc : Nat} {L : zLs} {σ : zMem} {x : Int32} {ty : FieldType} (hR : zR G cc (some ty) T Λ k n) (hn : narrow ty (.int x) = .int x) (hd : decode cc pc = .ok (.ireturn, 1)) : zE G T (fun r : Int32 => some (.int r)) Λ k n pc L [.int x] σ (some (x, σ)) := by
  intro r S h1 h2 h3
  cases h1
  rw [h3]
  exact hR.1 pc L x ty hd rfl hn h2.symm
def z01 (x : Int32) : Bool := decide (x = 0) || decide (x = 1)
theorem z01_nar {x : Int32} (h : z01 x = true) : narrow .boolean (.int x) = .int x := by
  simp only [z01, Bool.or_eq_true, decide_eq_true_eq] at h
  rcases h with h | h <;> subst h <;> rfl
theorem ze_zretG {G : zGT} {T : Option Value × zMem} {cc : ByteArray} {Λ : zLay} {k n pc : Nat} {L : zLs} {σ : zMem} {x : Int32} (hR : zR G cc (some .boolean) T Λ k n) (hd : decode cc pc = .ok (.ireturn, 1)) : zE G T (fun r : Int32 => some (.int r)) Λ k n pc L [.int x] σ (gd (z01 x) (some (x, σ))) := fun r S h1 h2 h3 => ze_zret hR (z01_nar (zgd h1).1) hd r S (zgd h1).2 h2 h3
def zNr (ty : FieldType) (x : Int32) : Bool := narrow ty (.int x) == .int x
theorem ze_lret {G : zGT} {T : Option Value × zMem} {cc : ByteArray} {Λ : zLay} {k n pc : Nat} {L : zLs} {σ : zMem} {x : Int64} (hR : zR G cc (some .long) T Λ k n) (hd : decode cc pc = .ok (.lreturn, 1)) : zE G T (fun r : Int64 => some (.long r)) Λ k n pc L [.long x] σ (some (x, σ)) := by
  intro r S h1 h2 h3
  cases h1
  rw [h3]
  exact hR.2.1 pc L x hd rfl h2.symm
theorem ze_vret {G : zGT} {T : Option Value × zMem} {cc : ByteArray} {Λ : zLay} {k n pc : Nat} {L : zLs} {σ : zMem} (hR : zR G cc none T Λ k n) (hd : decode cc pc = .ok (.return_, 1)) : zE G T (fun _ : Unit => none) Λ k n pc L [] σ (some ((), σ)) := by
  intro r S h1 h2 h3
  cases h1
  rw [h3]
  exact hR.2.2.1 pc L hd rfl h2.symm
theorem ze_aret {G : zGT} {T : Option Value × zMem} {cc : ByteArray} {Λ : zLay} {k n pc : Nat} {L : zLs} {σ : zMem} {x : Nat} {nm9 : String} (hR : zR G cc (some (.object nm9)) T Λ k n) (hd : decode cc pc = .ok (.areturn, 1)) : zE G T (fun r : Nat => some (.ref r)) Λ k n pc L [.ref x] σ (some (x, σ)) := by
  intro r S h1 h2 h3
  cases h1
  rw [h3]
  exact hR.2.2.2 pc L x nm9 hd rfl h2.symm
theorem ze_ldc {α : Type} {G : zGT} {l : Launch} {cc : ByteArray} {own : String} {nL d C N : Nat} {ini : Bool} {T : Option Value × zMem} {enc : α → Option Value} {Λ : zLay} {k n pc : Nat} {L : zLs} {st : List Value} {σ : zMem} {e : Option (α × zMem)} (h : zOk G l cc own nL d C N ini) {q : Nat} {v : Int32} (hw : Cond.constant own q v ∈ zW) (hd : decode cc pc = .ok (.ldc q, 2)) (kk : zE G T enc Λ k n (pc + 2) L (.int v :: st) σ e) : zE G T enc Λ k n pc L st σ e := by
  obtain ⟨p, e0, R, s, m, args, below, meth, c, D, cA, b, ext, Q, rfl, hx, hb, hml, hown, hts, hK, hfr, hlo, hC, hN, hini, hbs⟩ := h
  intro r S h1 h2 h3 H locs ls hP hS hl
  exact lv_ldc hx hb hown (hts _ hw) hd (kk r S h1 h2 h3 H locs ls hP hS hl)
theorem ze_ldcw {α : Type} {G : zGT} {l : Launch} {cc : ByteArray} {own : String} {nL d C N : Nat} {ini : Bool} {T : Option Value × zMem} {enc : α → Option Value} {Λ : zLay} {k n pc : Nat} {L : zLs} {st : List Value} {σ : zMem} {e : Option (α × zMem)} (h : zOk G l cc own nL d C N ini) {q : Nat} {v : Int32} (hw : Cond.constant own q v ∈ zW) (hd : decode cc pc = .ok (.ldc_w q, 3)) (kk : zE G T enc Λ k n (pc + 3) L (.int v :: st) σ e) : zE G T enc Λ k n pc L st σ e := by
  obtain ⟨p, e0, R, s, m, args, below, meth, c, D, cA, b, ext, Q, rfl, hx, hb, hml, hown, hts, hK, hfr, hlo, hC, hN, hini, hbs⟩ := h
  intro r S h1 h2 h3 H locs ls hP hS hl
  exact lv_ldcw hx hb hown (hts _ hw) hd (kk r S h1 h2 h3 H locs ls hP hS hl)
theorem ze_ldc2 {α : Type} {G : zGT} {l : Launch} {cc : ByteArray} {own : String} {nL d C N : Nat} {ini : Bool} {T : Option Value × zMem} {enc : α → Option Value} {Λ : zLay} {k n pc : Nat} {L : zLs} {st : List Value} {σ : zMem} {e : Option (α × zMem)} (h : zOk G l cc own nL d C N ini) {q : Nat} {v : Int64} (hw : Cond.constantLong own q v ∈ zW) (hd : decode cc pc = .ok (.ldc2_w q, 3)) (kk : zE G T enc Λ k n (pc + 3) L (.long v :: st) σ e) : zE G T enc Λ k n pc L st σ e := by
  obtain ⟨p, e0, R, s, m, args, below, meth, c, D, cA, b, ext, Q, rfl, hx, hb, hml, hown, hts, hK, hfr, hlo, hC, hN, hini, hbs⟩ := h
  intro r S h1 h2 h3 H locs ls hP hS hl
  exact lv_ldc2 hx hb hown (hts _ hw) hd (kk r S h1 h2 h3 H locs ls hP hS hl)
def zFld (own : String) (idx ci kf : Nat) (fin : Bool) (ty : FieldType) : Prop := ∃ (C : String) (T : u_T) (N : Nat) (tys : Nat → FieldType), vwCl[ci]? = some (C, T, N) ∧ kf < N ∧ Cond.fieldLink own idx (T kf).1 (T kf).2.1 (T kf).2.2.1 ∈ zW ∧ (∀ w ∈ u_ws C T N, w ∈ zW) ∧ (∀ k, k < N → parseFieldDescriptor (T k).2.2.1 = some (tys k)) ∧ (∀ a, a < N → ∀ b, b < N → a ≠ b → (T a).2.1 ≠ (T b).2.1) ∧ (T kf).2.2.2 = fin ∧ tys kf = ty
theorem ze_getI {α : Type} {G : zGT} {l : Launch} {cc : ByteArray} {own : String} {nL d C N : Nat} {ini : Bool} {T : Option Value × zMem} {enc : α → Option Value} {Λ : zLay} {k n pc : Nat} {L : zLs} {st : List Value} {σ : zMem} {e : Option (α × zMem)} (h : zOk G l cc own nL d C N ini) {a ci kf idx : Nat} {fs : List (Option (Option Nat))} {fin : Bool} {ty : FieldType} (h9 : Λ[a]? = some (.inr (ci, fs))) (h8 : fs[kf]? = some none) (hf : zFld own idx ci kf fin ty) (hd : decode cc pc = .ok (.getfield idx, 3)) (kk : zE G T enc Λ k n (pc + 3) L (.int (σ a kf) :: st) σ e) : zE G T enc Λ k n pc L (.ref a :: st) σ e := by
  obtain ⟨p, e0, R, s, m, args, below, meth, c, D, cA, b, ext, Q, rfl, hx, hb, hml, hown, hts, hK, hfr, hlo, hC, hN, hini, hbs⟩ := h
  intro r S h1 h2 h3 H locs ls hP hS hl
  obtain ⟨C9, T9, N9, tys, f1, f2, f3, f4, f5, f6, f7, f8⟩ := hf
  have h7 := zFs_get (zcv b ext) (σ a) fs 0 kf _ h8
  rw [Nat.zero_add] at h7
  exact va_get (D := D) (ci := ci) hx hb hts f4 hown hK.1 hP.1 a (zWs_at h9) f1 kf f2 (hts _ f3) (fun _ z => z) h7 hd (kk r S h1 h2 h3 H locs ls hP hS hl)
theorem ze_getR {α : Type} {G : zGT} {l : Launch} {cc : ByteArray} {own : String} {nL d C N : Nat} {ini : Bool} {T : Option Value × zMem} {enc : α → Option Value} {Λ : zLay} {k n pc : Nat} {L : zLs} {st : List Value} {σ : zMem} {e : Option (α × zMem)} (h : zOk G l cc own nL d C N ini) {a ci kf idx q : Nat} {fs : List (Option (Option Nat))} {fin : Bool} {ty : FieldType} (h9 : Λ[a]? = some (.inr (ci, fs))) (h8 : fs[kf]? = some (some (some q))) (hf : zFld own idx ci kf fin ty) (hd : decode cc pc = .ok (.getfield idx, 3)) (kk : zE G T enc Λ k n (pc + 3) L (.ref q :: st) σ e) : zE G T enc Λ k n pc L (.ref a :: st) σ e := by
  obtain ⟨p, e0, R, s, m, args, below, meth, c, D, cA, b, ext, Q, rfl, hx, hb, hml, hown, hts, hK, hfr, hlo, hC, hN, hini, hbs⟩ := h
  intro r S h1 h2 h3 H locs ls hP hS hl
  obtain ⟨C9, T9, N9, tys, f1, f2, f3, f4, f5, f6, f7, f8⟩ := hf
  have h7 := zFs_get (zcv b ext) (σ a) fs 0 kf _ h8
  rw [Nat.zero_add] at h7
  exact va_get (D := D) (ci := ci) hx hb hts f4 hown hK.1 hP.1 a (zWs_at h9) f1 kf f2 (hts _ f3) (fun _ z => z) h7 hd (kk r S h1 h2 h3 H locs ls hP hS hl)
theorem ze_putI {α : Type} {G : zGT} {l : Launch} {cc : ByteArray} {own : String} {nL d C N : Nat} {ini : Bool} {T : Option Value × zMem} {enc : α → Option Value} {Λ : zLay} {k n pc : Nat} {L : zLs} {st : List Value} {σ : zMem} {e : Option (α × zMem)} (h : zOk G l cc own nL d C N ini) {a ci kf idx : Nat} {fs : List (Option (Option Nat))} {ty : FieldType} {x : Int32} (h9 : Λ[a]? = some (.inr (ci, fs))) (h8 : fs[kf]? = some none) (hf : zFld own idx ci kf false ty) (hn : narrow ty (.int x) = .int x) (hfit : fits ty (.int x) = true) (hd : decode cc pc = .ok (.putfield idx, 3)) (kk : zE G T enc Λ k n (pc + 3) L st (zUp σ a kf x) e) : zE G T enc Λ k n pc L (.int x :: .ref a :: st) σ e := by
  obtain ⟨p, e0, R, s, m, args, below, meth, c, D, cA, b, ext, Q, rfl, hx, hb, hml, hown, hts, hK, hfr, hlo, hC, hN, hini, hbs⟩ := h
  intro r S h1 h2 h3 H locs ls hP hS hl
  obtain ⟨C9, T9, N9, tys, f1, f2, f3, f4, f5, f6, f7, f8⟩ := hf
  have hap := va_apart (own := own) hts f4 tys f5 f6 hK.1 f1
  have hat := hP.1 a _ (zWs_at h9)
  obtain ⟨r9, g1, cell, q1, q2, q3, q4⟩ := hat
  have hr : r9 = (C9, T9, N9) := Option.some.inj (g1.symm.trans f1)
  subst hr
  obtain ⟨hSl, hfc, kC, hkC, hkind⟩ := hK.1.1 ci _ f1
  obtain ⟨cf, kf2, fi, f, hi9, hsl⟩ := hSl kf f2
  have hlay := hts _ (f4 _ (u_in_lay f2))
  unfold u_lay at hlay
  rw [if_neg (by rw [f7]; decide)] at hlay
  have hst := (u_facts hfc hkC (u_lays hts f4 f2) hi9).1
  have hd5 := f5 kf f2
  rw [f8] at hd5
  have h6 := u_store hfc hkC hkind hlay hi9 hd5 hn hfit
  refine W.putK hx hb (f := f) ⟨hown, hts _ f3, ⟨_, _, _, hi9⟩, hst⟩ (by rw [q2]; exact h6) q1 q3 (by rw [hsl]; exact k2_hasslot (q4 kf f2)) rfl rfl hd fun H' e1 e2 e3 => ?_
  rw [hsl] at e1 ⊢
  have ha : a < Λ.length := (List.getElem?_eq_some_iff.mp h9).1
  have hlen : kf < (zFs (zcv b ext) (σ a) 0 fs).length := by rw [zFs_len]; exact (List.getElem?_eq_some_iff.mp h8).1
  have e9 := t_OB.to (V' := vp_V ((zFs (zcv b ext) (σ a) 0 fs).set kf (zV (zcv b ext) (.int x)))) (V := updV (vp_V (zFs (zcv b ext) (σ a) 0 fs)) kf (zV (zcv b ext) (.int x))) ⟨_, e1, q2, q3, t_set q4 hap f2 _⟩ (fun j _ => vp_updV_set hlen _ j)
  have hP1 := hP.1.set hP.D (zWs_at h9) (e := .inr (ci, (zFs (zcv b ext) (σ a) 0 fs).set kf (zV (zcv b ext) (.int x)))) ⟨_, f1, e9⟩ e3
  refine kk r S h1 h2 h3 H' _ ls ⟨?_, by rw [e2, hP.2.1], hP.2.2⟩ (hS.put e2 e3 (hP.D.2 a _ (zWs_at h9))) hl
  have e5 : (zFs (zcv b ext) (σ a) 0 fs).set kf (zV (zcv b ext) (.int x)) = zFs (zcv b ext) (upd (σ a) kf x) 0 fs := by
    have := zFs_setI (zcv b ext) (σ a) x fs 0 kf h8
    rw [Nat.zero_add] at this
    exact this
  rw [e5] at hP1
  have e6 := zWs_set0 (cv := zcv b ext) (cA := cA) (σ := σ) (τ := zUp σ a kf x) (e' := .inr (ci, fs)) ha (fun _ hx9 => zUp_ne hx9)
  rw [zset_same Λ a _ h9, zUp_self] at e6
  rw [← e6]
  exact hP1
theorem ze_putIF {α : Type} {G : zGT} {l : Launch} {cc : ByteArray} {own : String} {nL d C N : Nat} {ini : Bool} {T : Option Value × zMem} {enc : α → Option Value} {Λ : zLay} {k n pc : Nat} {L : zLs} {st : List Value} {σ : zMem} {e : Option (α × zMem)} (h : zOk G l cc own nL d C N ini) {a ci kf idx : Nat} {fs : List (Option (Option Nat))} {ty : FieldType} {x : Int32} (h9 : Λ[a]? = some (.inr (ci, fs))) (h8 : fs[kf]? = some none) (hf : zFld own idx ci kf true ty) (hi : ini = true) (ho : ∀ q9, vwCl[ci]? = some q9 → (q9.2.1 kf).1 = own) (hn : narrow ty (.int x) = .int x) (hfit : fits ty (.int x) = true) (hd : decode cc pc = .ok (.putfield idx, 3)) (kk : zE G T enc Λ k n (pc + 3) L st (zUp σ a kf x) e) : zE G T enc Λ k n pc L (.int x :: .ref a :: st) σ e := by
  obtain ⟨p, e0, R, s, m, args, below, meth, c, D, cA, b, ext, Q, rfl, hx, hb, hml, hown, hts, hK, hfr, hlo, hC, hN, hini, hbs⟩ := h
  intro r S h1 h2 h3 H locs ls hP hS hl
  obtain ⟨C9, T9, N9, tys, f1, f2, f3, f4, f5, f6, f7, f8⟩ := hf
  have hap := va_apart (own := own) hts f4 tys f5 f6 hK.1 f1
  have hat := hP.1 a _ (zWs_at h9)
  obtain ⟨r9, g1, cell, q1, q2, q3, q4⟩ := hat
  have hr : r9 = (C9, T9, N9) := Option.some.inj (g1.symm.trans f1)
  subst hr
  obtain ⟨hSl, hfc, kC, hkC, hkind⟩ := hK.1.1 ci _ f1
  obtain ⟨cf, kf2, fi, f, hi9, hsl⟩ := hSl kf f2
  have hlay := hts _ (f4 _ (u_in_lay f2))
  unfold u_lay at hlay
  rw [if_pos f7] at hlay
  have hst := (u_facts hfc hkC (u_lays hts f4 f2) hi9).1
  have hd5 := f5 kf f2
  rw [f8] at hd5
  have hcf : m.cls = cf := by
    obtain ⟨_, _, c', _, _, _, -, -, hf', -, -, -, hown2, -⟩ := Cond.laysFinal_spec hlay
    have e1 : c' = cf := by have := hi9.symm.trans hf'; simp at this; exact this.1.symm
    rw [ho _ f1] at hown2
    rw [← e1]; exact Option.some.inj (hown.symm.trans hown2)
  have h6 := u_fits hfc hkC hkind (Or.inr hlay) hi9 hd5 hn hfit
  refine W.putFinK hx hb hown (hts _ f3) hi9 hst hcf (hini hi) (by rw [q2]; exact h6) q1 q3 (by rw [hsl]; exact k2_hasslot (q4 kf f2)) rfl rfl hd fun H' e1 e2 e3 => ?_
  rw [hsl] at e1 ⊢
  have ha : a < Λ.length := (List.getElem?_eq_some_iff.mp h9).1
  have hlen : kf < (zFs (zcv b ext) (σ a) 0 fs).length := by rw [zFs_len]; exact (List.getElem?_eq_some_iff.mp h8).1
  have e9 := t_OB.to (V' := vp_V ((zFs (zcv b ext) (σ a) 0 fs).set kf (zV (zcv b ext) (.int x)))) (V := updV (vp_V (zFs (zcv b ext) (σ a) 0 fs)) kf (zV (zcv b ext) (.int x))) ⟨_, e1, q2, q3, t_set q4 hap f2 _⟩ (fun j _ => vp_updV_set hlen _ j)
  have hP1 := hP.1.set hP.D (zWs_at h9) (e := .inr (ci, (zFs (zcv b ext) (σ a) 0 fs).set kf (zV (zcv b ext) (.int x)))) ⟨_, f1, e9⟩ e3
  refine kk r S h1 h2 h3 H' _ ls ⟨?_, by rw [e2, hP.2.1], hP.2.2⟩ (hS.put e2 e3 (hP.D.2 a _ (zWs_at h9))) hl
  have e5 : (zFs (zcv b ext) (σ a) 0 fs).set kf (zV (zcv b ext) (.int x)) = zFs (zcv b ext) (upd (σ a) kf x) 0 fs := by
    have := zFs_setI (zcv b ext) (σ a) x fs 0 kf h8
    rw [Nat.zero_add] at this
    exact this
  rw [e5] at hP1
  have e6 := zWs_set0 (cv := zcv b ext) (cA := cA) (σ := σ) (τ := zUp σ a kf x) (e' := .inr (ci, fs)) ha (fun _ hx9 => zUp_ne hx9)
  rw [zset_same Λ a _ h9, zUp_self] at e6
  rw [← e6]
  exact hP1
theorem ze_putR {α : Type} {G : zGT} {l : Launch} {cc : ByteArray} {own : String} {nL d C N : Nat} {ini : Bool} {T : Option Value × zMem} {enc : α → Option Value} {Λ : zLay} {k n pc : Nat} {L : zLs} {st : List Value} {σ : zMem} {e : Option (α × zMem)} (h : zOk G l cc own nL d C N ini) {a ci kf idx q : Nat} {fs : List (Option (Option Nat))} {ty : FieldType} (h9 : Λ[a]? = some (.inr (ci, fs))) (h8 : kf < fs.length) (hf : zFld own idx ci kf false ty) (hn : ∀ z : Nat, narrow ty (.ref z) = .ref z) (hfit : ∀ z : Nat, fits ty (.ref z) = true) (hd : decode cc pc = .ok (.putfield idx, 3)) (kk : zE G T enc (Λ.set a (.inr (ci, fs.set kf (some (some q))))) k n (pc + 3) L st σ e) : zE G T enc Λ k n pc L (.ref q :: .ref a :: st) σ e := by
  obtain ⟨p, e0, R, s, m, args, below, meth, c, D, cA, b, ext, Q, rfl, hx, hb, hml, hown, hts, hK, hfr, hlo, hC, hN, hini, hbs⟩ := h
  intro r S h1 h2 h3 H locs ls hP hS hl
  obtain ⟨C9, T9, N9, tys, f1, f2, f3, f4, f5, f6, f7, f8⟩ := hf
  have hap := va_apart (own := own) hts f4 tys f5 f6 hK.1 f1
  have hat := hP.1 a _ (zWs_at h9)
  obtain ⟨r9, g1, cell, q1, q2, q3, q4⟩ := hat
  have hr : r9 = (C9, T9, N9) := Option.some.inj (g1.symm.trans f1)
  subst hr
  obtain ⟨hSl, hfc, kC, hkC, hkind⟩ := hK.1.1 ci _ f1
  obtain ⟨cf, kf2, fi, f, hi9, hsl⟩ := hSl kf f2
  have hlay := hts _ (f4 _ (u_in_lay f2))
  unfold u_lay at hlay
  rw [if_neg (by rw [f7]; decide)] at hlay
  have hst := (u_facts hfc hkC (u_lays hts f4 f2) hi9).1
  have hd5 := f5 kf f2
  rw [f8] at hd5
  have h6 := u_store hfc hkC hkind hlay hi9 hd5 (hn (zcv b ext q)) (hfit (zcv b ext q))
  refine W.putK hx hb (f := f) ⟨hown, hts _ f3, ⟨_, _, _, hi9⟩, hst⟩ (by rw [q2]; exact h6) q1 q3 (by rw [hsl]; exact k2_hasslot (q4 kf f2)) rfl rfl hd fun H' e1 e2 e3 => ?_
  rw [hsl] at e1 ⊢
  have ha : a < Λ.length := (List.getElem?_eq_some_iff.mp h9).1
  have hlen : kf < (zFs (zcv b ext) (σ a) 0 fs).length := by rw [zFs_len]; exact h8
  have e9 := t_OB.to (V' := vp_V ((zFs (zcv b ext) (σ a) 0 fs).set kf (zV (zcv b ext) (.ref q)))) (V := updV (vp_V (zFs (zcv b ext) (σ a) 0 fs)) kf (zV (zcv b ext) (.ref q))) ⟨_, e1, q2, q3, t_set q4 hap f2 _⟩ (fun j _ => vp_updV_set hlen _ j)
  have hP1 := hP.1.set hP.D (zWs_at h9) (e := .inr (ci, (zFs (zcv b ext) (σ a) 0 fs).set kf (zV (zcv b ext) (.ref q)))) ⟨_, f1, e9⟩ e3
  refine kk r S h1 h2 h3 H' _ ls ⟨?_, by rw [e2, hP.2.1]; simp, by simpa using hP.2.2⟩ (hS.put e2 e3 (hP.D.2 a _ (zWs_at h9))) hl
  have e5 : (zFs (zcv b ext) (σ a) 0 fs).set kf (zV (zcv b ext) (.ref q)) = zFs (zcv b ext) (σ a) 0 (fs.set kf (some (some q))) := zFs_setR _ _ q fs 0 kf h8
  rw [e5] at hP1
  have e6 := zWs_set0 (cv := zcv b ext) (cA := cA) (σ := σ) (τ := σ) (e' := .inr (ci, fs.set kf (some (some q)))) ha (fun _ _ => rfl)
  rw [← e6]
  exact hP1
theorem ze_putRF {α : Type} {G : zGT} {l : Launch} {cc : ByteArray} {own : String} {nL d C N : Nat} {ini : Bool} {T : Option Value × zMem} {enc : α → Option Value} {Λ : zLay} {k n pc : Nat} {L : zLs} {st : List Value} {σ : zMem} {e : Option (α × zMem)} (h : zOk G l cc own nL d C N ini) {a ci kf idx q : Nat} {fs : List (Option (Option Nat))} {ty : FieldType} (h9 : Λ[a]? = some (.inr (ci, fs))) (h8 : kf < fs.length) (hf : zFld own idx ci kf true ty) (hi : ini = true) (ho : ∀ q9, vwCl[ci]? = some q9 → (q9.2.1 kf).1 = own) (hn : ∀ z : Nat, narrow ty (.ref z) = .ref z) (hfit : ∀ z : Nat, fits ty (.ref z) = true) (hd : decode cc pc = .ok (.putfield idx, 3)) (kk : zE G T enc (Λ.set a (.inr (ci, fs.set kf (some (some q))))) k n (pc + 3) L st σ e) : zE G T enc Λ k n pc L (.ref q :: .ref a :: st) σ e := by
  obtain ⟨p, e0, R, s, m, args, below, meth, c, D, cA, b, ext, Q, rfl, hx, hb, hml, hown, hts, hK, hfr, hlo, hC, hN, hini, hbs⟩ := h
  intro r S h1 h2 h3 H locs ls hP hS hl
  obtain ⟨C9, T9, N9, tys, f1, f2, f3, f4, f5, f6, f7, f8⟩ := hf
  have hap := va_apart (own := own) hts f4 tys f5 f6 hK.1 f1
  have hat := hP.1 a _ (zWs_at h9)
  obtain ⟨r9, g1, cell, q1, q2, q3, q4⟩ := hat
  have hr : r9 = (C9, T9, N9) := Option.some.inj (g1.symm.trans f1)
  subst hr
  obtain ⟨hSl, hfc, kC, hkC, hkind⟩ := hK.1.1 ci _ f1
  obtain ⟨cf, kf2, fi, f, hi9, hsl⟩ := hSl kf f2
  have hlay := hts _ (f4 _ (u_in_lay f2))
  unfold u_lay at hlay
  rw [if_pos f7] at hlay
  have hst := (u_facts hfc hkC (u_lays hts f4 f2) hi9).1
  have hd5 := f5 kf f2
  rw [f8] at hd5
  have hcf : m.cls = cf := by
    obtain ⟨_, _, c', _, _, _, -, -, hf', -, -, -, hown2, -⟩ := Cond.laysFinal_spec hlay
    have e1 : c' = cf := by have := hi9.symm.trans hf'; simp at this; exact this.1.symm
    rw [ho _ f1] at hown2
    rw [← e1]; exact Option.some.inj (hown.symm.trans hown2)
  have h6 := u_fits hfc hkC hkind (Or.inr hlay) hi9 hd5 (hn (zcv b ext q)) (hfit (zcv b ext q))
  refine W.putFinK hx hb hown (hts _ f3) hi9 hst hcf (hini hi) (by rw [q2]; exact h6) q1 q3 (by rw [hsl]; exact k2_hasslot (q4 kf f2)) rfl rfl hd fun H' e1 e2 e3 => ?_
  rw [hsl] at e1 ⊢
  have ha : a < Λ.length := (List.getElem?_eq_some_iff.mp h9).1
  have hlen : kf < (zFs (zcv b ext) (σ a) 0 fs).length := by rw [zFs_len]; exact h8
  have e9 := t_OB.to (V' := vp_V ((zFs (zcv b ext) (σ a) 0 fs).set kf (zV (zcv b ext) (.ref q)))) (V := updV (vp_V (zFs (zcv b ext) (σ a) 0 fs)) kf (zV (zcv b ext) (.ref q))) ⟨_, e1, q2, q3, t_set q4 hap f2 _⟩ (fun j _ => vp_updV_set hlen _ j)
  have hP1 := hP.1.set hP.D (zWs_at h9) (e := .inr (ci, (zFs (zcv b ext) (σ a) 0 fs).set kf (zV (zcv b ext) (.ref q)))) ⟨_, f1, e9⟩ e3
  refine kk r S h1 h2 h3 H' _ ls ⟨?_, by rw [e2, hP.2.1]; simp, by simpa using hP.2.2⟩ (hS.put e2 e3 (hP.D.2 a _ (zWs_at h9))) hl
  have e5 : (zFs (zcv b ext) (σ a) 0 fs).set kf (zV (zcv b ext) (.ref q)) = zFs (zcv b ext) (σ a) 0 (fs.set kf (some (some q))) := zFs_setR _ _ q fs 0 kf h8
  rw [e5] at hP1
  have e6 := zWs_set0 (cv := zcv b ext) (cA := cA) (σ := σ) (τ := σ) (e' := .inr (ci, fs.set kf (some (some q)))) ha (fun _ _ => rfl)
  rw [← e6]
  exact hP1
theorem ze_iald {α : Type} {G : zGT} {l : Launch} {cc : ByteArray} {own : String} {nL d C N : Nat} {ini : Bool} {T : Option Value × zMem} {enc : α → Option Value} {Λ : zLay} {k n pc : Nat} {L : zLs} {st : List Value} {σ : zMem} {e : Option (α × zMem)} (h : zOk G l cc own nL d C N ini) {a n9 : Nat} {i : Int32} (h9 : Λ[a]? = some (.inl n9)) (hin : vp_in i n9) (hd : decode cc pc = .ok (.iaload, 1)) (kk : zE G T enc Λ k n (pc + 1) L (.int (σ a (zix i)) :: st) σ e) : zE G T enc Λ k n pc L (.int i :: .ref a :: st) σ e := by
  obtain ⟨p, e0, R, s, m, args, below, meth, c, D, cA, b, ext, Q, rfl, hx, hb, hml, hown, hts, hK, hfr, hlo, hC, hN, hini, hbs⟩ := h
  intro r S h1 h2 h3 H locs ls hP hS hl
  exact va_iald (D := D) hx hb hK.1 hP.1 a 0 (zWs_at h9) rfl hin hd (kk r S h1 h2 h3 H locs ls hP hS hl)
theorem ze_ialdG {α : Type} {G : zGT} {l : Launch} {cc : ByteArray} {own : String} {nL d C N : Nat} {ini : Bool} {T : Option Value × zMem} {enc : α → Option Value} {Λ : zLay} {k n pc : Nat} {L : zLs} {st : List Value} {σ : zMem} {e : Option (α × zMem)} (h : zOk G l cc own nL d C N ini) {a n9 : Nat} {i : Int32} (h9 : Λ[a]? = some (.inl n9)) (hd : decode cc pc = .ok (.iaload, 1)) (kk : zE G T enc Λ k n (pc + 1) L (.int (σ a (zix i)) :: st) σ e) : zE G T enc Λ k n pc L (.int i :: .ref a :: st) σ (gd (zib i n9) e) := fun r S h1 h2 h3 => ze_iald h h9 (zib_in (zgd h1).1) hd kk r S (zgd h1).2 h2 h3
theorem ze_iast {α : Type} {G : zGT} {l : Launch} {cc : ByteArray} {own : String} {nL d C N : Nat} {ini : Bool} {T : Option Value × zMem} {enc : α → Option Value} {Λ : zLay} {k n pc : Nat} {L : zLs} {st : List Value} {σ : zMem} {e : Option (α × zMem)} (h : zOk G l cc own nL d C N ini) {a n9 : Nat} {i x : Int32} (h9 : Λ[a]? = some (.inl n9)) (hin : vp_in i n9) (hd : decode cc pc = .ok (.iastore, 1)) (kk : zE G T enc Λ k n (pc + 1) L st (zUp σ a (zix i) x) e) : zE G T enc Λ k n pc L (.int x :: .int i :: .ref a :: st) σ e := by
  obtain ⟨p, e0, R, s, m, args, below, meth, c, D, cA, b, ext, Q, rfl, hx, hb, hml, hown, hts, hK, hfr, hlo, hC, hN, hini, hbs⟩ := h
  intro r S h1 h2 h3 H locs ls hP hS hl
  have hat := hP.1 a _ (zWs_at h9)
  have ha : a < Λ.length := (List.getElem?_eq_some_iff.mp h9).1
  refine W.iast hx hb hat ((hK.1.2 0 _ rfl).1 n9 (fun j => .int (σ a j))) (fun q => by cases q) (by show ¬ (i < 0 ∨ (arrV _ _ _).slots.size ≤ _); rw [arrV_size]; exact hin) rfl rfl hd fun H1 e1 e2 e3 => ?_
  have hP1 := hP.1.set hP.D (zWs_at h9) (e := .inl (cA, n9, .inl (upd (σ a) (zix i) x))) (by
    show H1[zcv b ext a]? = some (vp_cell _ _)
    rw [e1]
    show some ((vp_cell cA (n9, .inl (σ a))).setSlot _ _) = _
    rw [vp_cell_i, vp_cell_i, arrV_store]
    congr 2
    funext q
    by_cases hq : q = i.toNatClampNeg
    · subst hq; simp [updV, upd]
    · simp [updV, upd, hq]) e3
  refine kk r S h1 h2 h3 H1 _ ls ⟨?_, by rw [e2]; exact hP.2.1, hP.2.2⟩ (hS.put e2 e3 (hP.D.2 a _ (zWs_at h9))) hl
  have e6 := zWs_set0 (cv := zcv b ext) (cA := cA) (σ := σ) (τ := zUp σ a (zix i) x) (e' := .inl n9) ha (fun _ hx9 => zUp_ne hx9)
  rw [zset_same Λ a _ h9, zUp_self] at e6
  rw [← e6]
  exact hP1
theorem ze_iastG {α : Type} {G : zGT} {l : Launch} {cc : ByteArray} {own : String} {nL d C N : Nat} {ini : Bool} {T : Option Value × zMem} {enc : α → Option Value} {Λ : zLay} {k n pc : Nat} {L : zLs} {st : List Value} {σ : zMem} {e : Option (α × zMem)} (h : zOk G l cc own nL d C N ini) {a n9 : Nat} {i x : Int32} (h9 : Λ[a]? = some (.inl n9)) (hd : decode cc pc = .ok (.iastore, 1)) (kk : zE G T enc Λ k n (pc + 1) L st (zUp σ a (zix i) x) e) : zE G T enc Λ k n pc L (.int x :: .int i :: .ref a :: st) σ (gd (zib i n9) e) := fun r S h1 h2 h3 => ze_iast h h9 (zib_in (zgd h1).1) hd kk r S (zgd h1).2 h2 h3
theorem ze_alen {α : Type} {G : zGT} {l : Launch} {cc : ByteArray} {own : String} {nL d C N : Nat} {ini : Bool} {T : Option Value × zMem} {enc : α → Option Value} {Λ : zLay} {k n pc : Nat} {L : zLs} {st : List Value} {σ : zMem} {e : Option (α × zMem)} (h : zOk G l cc own nL d C N ini) {a n9 : Nat} {v : Int32} (h9 : Λ[a]? = some (.inl n9)) (hv : Int32.ofNat n9 = v) (hd : decode cc pc = .ok (.arraylength, 1)) (kk : zE G T enc Λ k n (pc + 1) L (.int v :: st) σ e) : zE G T enc Λ k n pc L (.ref a :: st) σ e := by
  obtain ⟨p, e0, R, s, m, args, below, meth, c, D, cA, b, ext, Q, rfl, hx, hb, hml, hown, hts, hK, hfr, hlo, hC, hN, hini, hbs⟩ := h
  intro r S h1 h2 h3 H locs ls hP hS hl
  exact va_alen (D := D) hx hb hK.1 hP.1 a 0 (x := (n9, .inl (σ a))) (zWs_at h9) (ty := .int) rfl hv hd (kk r S h1 h2 h3 H locs ls hP hS hl)
end
section
theorem zKst.blind {D : va_G} {cA : ClassId} {b : Nat} {ext : Nat → Nat} {Λ : zLay} {σ : zMem} {av : List Value} : FrameBlind (va_Pc av (zPre D cA b ext Λ σ)) := fun a U g mk q => ⟨q.1, q.2.1, zKst.go (s := U) (U := U.calling g mk a) (H0 := U.heap) (H := U.heap) (locs := []) q.2.2 va_S.rf (State.WarmedH.refl U)⟩
theorem zfin {p : Program} {l : Launch} {e : Env} {R : Room} {s : State} {m : MethodId} {args : Array Value} {below : List Frame} {meth : Method} {c : Code} {D : va_G} {cA : ClassId} {b : Nat} {ext : Nat → Nat} {H : Heap} {locs : List Loc} {k n mc ms : Nat} {Q : State → Prop} {pc : Nat} {ls : Array Slot} {st0 rest : List Value} {V : Option Value} {Λ' : zLay} {S' : zMem} {a : Array Value}
    (hr : va_Run p l e R s m args below meth c H locs k n mc ms (F0 m pc ls st0) rest (zPost D cA b ext V Λ' S' a) (zA b)) (hS : va_S (zA b) s.heap H locs)
    (kk : ∀ (H1 : Heap) (locs1 : List Loc), zPic D cA b ext Λ' S' H1 → va_S (zA b) s.heap H1 locs1 → W p l e R s m args below meth c H1 locs1 (k + mc) (n + ms) Q (F0 m (pc + 3) ls ((V.map (zV (zcv b ext))).toList ++ rest))) : W p l e R s m args below meth c H locs k n Q (F0 m pc ls st0) := by
  intro T hT X
  obtain ⟨v, st₀, t, T', Lc, h0, X', hL, e1, e2, ⟨hv, hp, hz, hk⟩, stp⟩ := hr T hT X
  cases hv
  rw [h0] at hz hk
  obtain ⟨t2, a1, b1⟩ := kk T'.heap (locs ++ Lc) (by rw [e1]; exact hp) ⟨Nat.le_trans hS.1 (by rw [e1]; exact hz), fun q h1 h2 => by rw [e1, hk q (Nat.lt_of_lt_of_le h1 hS.1) h2]; exact hS.2.1 q h1 h2, fun q hq => by
    rcases List.mem_append.mp hq with h | h
    · exact hS.2.2 q h
    · exact hL q h⟩ T' rfl X'
  exact ⟨t2, stp t2 a1, b1⟩
theorem zcv_ext {b : Nat} {ext : Nat → Nat} {i : Nat} : zcv b ext (1000 + i) = ext i := by
  unfold zcv
  rw [if_neg (by omega), Nat.add_sub_cancel_left]
def zC {α : Type} (l : Launch) (y : MethodName) (c : Cond) (d : Nat) (args : List Value) (Λ : zLay) (σ : zMem) (enc : α → Option Value) (f : Option (α × zMem)) : Prop := ∀ r S, f = some (r, S) → zMet l y c d 0 0 args Λ σ (enc r) Λ S
def zCI (l : Launch) (y : MethodName) (c : Cond) (d mc ms : Nat) (args : List Value) (Λ : zLay) (σ : zMem) (Λ' : zLay) (f : Option (Unit × zMem)) : Prop := ∀ r S, f = some (r, S) → zMet l y c d mc ms args Λ σ none Λ' S
theorem zC_of {α : Type} {l : Launch} {y : MethodName} {cc : ByteArray} {nL : Nat} {ret : Option FieldType} {d : Nat} {own : String} {args : List Value} {Λ : zLay} {σ : zMem} {enc : α → Option Value} {f : Option (α × zMem)} (hy : plainName y.cls = true) (hown : y.cls = own) (hl : (zArgs args).length ≤ nL) (L : zLs) (hL : zArgs args ++ List.replicate (nL - (zArgs args).length) none = L)
    (h : ∀ (G : zGT) (T : Option Value × zMem), zOk G l cc own nL d 0 0 false → zR G cc ret T Λ 0 0 → zE G T enc Λ 0 0 0 L [] σ f) : zC l y (.code y cc nL ret) d args Λ σ enc f := by
  intro r S hf
  exact zM_of (T := (enc r, S)) (ini := false) hy hown (fun q => by cases q) hl L hL (fun G hG hR => h G (enc r, S) hG hR r S hf rfl rfl)
theorem zCI_of {l : Launch} {y : MethodName} {cc : ByteArray} {nL : Nat} {d mc ms : Nat} {own : String} {args : List Value} {Λ Λ' : zLay} {σ : zMem} {f : Option (Unit × zMem)} (hy : plainName y.cls = true) (hown : y.cls = own) (hi : y.name = "<init>") (hl : (zArgs args).length ≤ nL) (L : zLs) (hL : zArgs args ++ List.replicate (nL - (zArgs args).length) none = L)
    (h : ∀ (G : zGT) (T : Option Value × zMem), zOk G l cc own nL d mc ms true → zR G cc none T Λ' mc ms → zE G T (fun _ : Unit => none) Λ 0 0 0 L [] σ f) : zCI l y (.code y cc nL none) d mc ms args Λ σ Λ' f := by
  intro r S hf
  exact zM_of (T := (none, S)) (ini := true) hy hown (fun _ => hi) hl L hL (fun G hG hR => h G (none, S) hG hR r S hf rfl rfl)
def zCe (y : MethodName) (cb : ByteArray) (nL : Nat) (ret : Option FieldType) (n : Nat) : Prop := Cond.code y cb nL ret ∈ zW ∧ Cond.initialized y.cls ∈ zW ∧ (y.cls ≠ "java/lang/invoke/MethodHandle" ∧ y.cls ≠ "java/lang/invoke/VarHandle") ∧ (parseMethodDescriptor y.desc).map (fun d => d.parameters.length) = some n ∧ nL ≤ 29
theorem zgood_cons {c : Cond} (h : c ∈ zW) : GoodIn zW (c :: zW) := fun w hw => by
  rcases List.mem_cons.mp hw with e | e
  · rw [e]; exact zW_good c h
  · exact zW_good w e
theorem zcons {c : Cond} {ws : List Cond} (h : c ∈ zW) (g : GoodIn zW ws) : GoodIn zW (c :: ws) := fun w hw => by
  rcases List.mem_cons.mp hw with e | e
  · rw [e]; exact zW_good c h
  · exact g w e
theorem zbd {α β : Type} {m : Option (α × zMem)} {f : α → zMem → Option β} {q : β} (h : bd m f = some q) : ∃ r S, m = some (r, S) ∧ f r S = some q := by
  cases m with
  | none => cases h
  | some w => exact ⟨w.1, w.2, rfl, h⟩
theorem ze_callV {α : Type} {G : zGT} {l : Launch} {cc : ByteArray} {own : String} {nL d C N : Nat} {ini : Bool} {T : Option Value × zMem} {enc : α → Option Value} {Λ : zLay} {k n pc : Nat} {L : zLs} {st : List Value} {σ : zMem} {β : Type} {f : Option (β × zMem)} {enc2 : β → Option Value} {kf : β → zMem → Option (α × zMem)} {st0 As : List Value} {y : MethodName} {cb : ByteArray} {nL2 n9 idx dd : Nat} {ret : Option FieldType} (h : zOk G l cc own nL d C N ini) (hy : zCe y cb nL2 ret n9) (hi9 : Cond.instanceMethod y ∈ zW) (hs9 : Cond.selects y.cls y y ∈ zW) (hm : Cond.methodLink own idx y ∈ zW) {a ci : Nat} {fs : List (Option (Option Nat))} {q9 : vw_C} (h9 : Λ[a]? = some (.inr (ci, fs))) (hc : vwCl[ci]? = some q9) (hq : q9.1 = y.cls) (hdd : dd + 1 ≤ d) (hkn : k ≤ C ∧ n ≤ N) (hcon : zC l y (.code y cb nL2 ret) dd (.ref a :: As) Λ σ enc2 f) (hn : As.length = n9) (hw : (st.map fun v => v.category).sum ≤ 8) (hst : As.reverse ++ .ref a :: st = st0) (hd : decode cc pc = .ok (.invokevirtual idx, 3)) (kk : ∀ (r : β) (S : zMem), zE G T enc Λ k n (pc + 3) L ((enc2 r).toList ++ st) S (kf r S)) : zE G T enc Λ k n pc L st0 σ (bd f kf) := by
  intro r S h1 h2 h3
  obtain ⟨r2, S2, hf, h1⟩ := zbd h1
  have hM := hcon r2 S2 hf
  have hkk := kk r2 S2 r S h1 h2 h3
  obtain ⟨y1, y2, y3, y4, y5⟩ := hy
  obtain ⟨p, e0, R, s, m, args, below, meth, c, D, cA, b, ext, Q, rfl, hx, hb, hml, hown, hts, hK, hfr, hlo, hC, hN, hini, hbs⟩ := h
  intro H locs ls hP hS hl
  have hR9 : (zroom dd 0 0).frames + 1 ≤ R.frames ∧ 8 + (nL2 + 11) + (zroom dd 0 0).locals ≤ R.locals := ⟨by show dd + 1 ≤ _; omega, by show 8 + (nL2 + 11) + 64 * dd ≤ _; omega⟩
  have hcells : k + 0 ≤ R.cells ∧ n + 0 ≤ R.slots := ⟨by omega, by omega⟩
  have hW9 : (List.map (fun v => Value.category v) (List.map (zV (zcv b ext)) st)).sum ≤ 8 := by rw [zCat]; exact hw
  have hpre : ∀ U : State, U.heap = H → s.WarmedH U.vm → va_Pc (List.map (zV (zcv b ext)) (.ref a :: As)) (zPre D cA b ext Λ σ) (List.map (zV (zcv b ext)) (.ref a :: As)).toArray U := fun U hU hWm => ⟨rfl, by rw [hU]; exact hP, zKst.go hK (by rw [hU]; exact hS) hWm⟩
  have hG9 : GoodIn zW (wsV own idx y.cls y ((Cond.code y cb nL2 ret) :: zW)) := zcons hm (zcons hi9 (zcons hs9 (zcons y2 (zgood_cons y1))))
  have hrun := va_runV (e := e0) (below := below) (meth := meth) (As := List.map (zV (zcv b ext)) As) (rest := List.map (zV (zcv b ext)) st) (b := zcv b ext a) (g := F0 m pc ls (List.map (zV (zcv b ext)) st0)) (H := H) (locs := locs) (cells := k) (slots := n) (C := y.cls) (Ts := zW) ⟨hx, hb, hml, hown, hts⟩ (hM D cA b ext) (cwV n9 hts hG9 rfl rfl rfl ⟨rfl, y3.1, y3.2, y4⟩ hR9) ⟨zKst.blind, by rw [← hq]; exact va_recv hK.1 hP.1 hc (zWs_at h9), hpre⟩ rfl (by rw [List.length_map]; exact hn) hl.1 (by subst hst; show List.map (zV (zcv b ext)) _ = _; simp [zV]) (lv_room hW9) hd hcells
  exact zfin hrun hS (fun H1 locs1 hP1 hS1 => by
    have := hkk H1 locs1 ls hP1 hS1 hl
    rw [List.map_append] at this
    cases he : enc2 r2 with
    | none => rw [he] at this; exact this
    | some v9 => rw [he] at this; exact this)
theorem ze_callT {α : Type} {G : zGT} {l : Launch} {cc : ByteArray} {own : String} {nL d C N : Nat} {ini : Bool} {T : Option Value × zMem} {enc : α → Option Value} {Λ : zLay} {k n pc : Nat} {L : zLs} {st : List Value} {σ : zMem} {β : Type} {f : Option (β × zMem)} {enc2 : β → Option Value} {kf : β → zMem → Option (α × zMem)} {st0 As : List Value} {y : MethodName} {cb : ByteArray} {nL2 n9 idx dd : Nat} {ret : Option FieldType} (h : zOk G l cc own nL d C N ini) (hy : zCe y cb nL2 ret n9) (hi9 : Cond.instanceMethod y ∈ zW) (hs9 : Cond.selects y.cls y y ∈ zW) (hm : Cond.methodLink own idx y ∈ zW) {i a : Nat} (ha : a = 1000 + i) (hi : i < 13) (hq : y.cls = "java/lang/String") (hdd : dd + 1 ≤ d) (hkn : k ≤ C ∧ n ≤ N) (hcon : zC l y (.code y cb nL2 ret) dd (.ref a :: As) Λ σ enc2 f) (hn : As.length = n9) (hw : (st.map fun v => v.category).sum ≤ 8) (hst : As.reverse ++ .ref a :: st = st0) (hd : decode cc pc = .ok (.invokevirtual idx, 3)) (kk : ∀ (r : β) (S : zMem), zE G T enc Λ k n (pc + 3) L ((enc2 r).toList ++ st) S (kf r S)) : zE G T enc Λ k n pc L st0 σ (bd f kf) := by
  intro r S h1 h2 h3
  obtain ⟨r2, S2, hf, h1⟩ := zbd h1
  have hM := hcon r2 S2 hf
  have hkk := kk r2 S2 r S h1 h2 h3
  obtain ⟨y1, y2, y3, y4, y5⟩ := hy
  obtain ⟨p, e0, R, s, m, args, below, meth, c, D, cA, b, ext, Q, rfl, hx, hb, hml, hown, hts, hK, hfr, hlo, hC, hN, hini, hbs⟩ := h
  intro H locs ls hP hS hl
  have hR9 : (zroom dd 0 0).frames + 1 ≤ R.frames ∧ 8 + (nL2 + 11) + (zroom dd 0 0).locals ≤ R.locals := ⟨by show dd + 1 ≤ _; omega, by show 8 + (nL2 + 11) + 64 * dd ≤ _; omega⟩
  have hcells : k + 0 ≤ R.cells ∧ n + 0 ≤ R.slots := ⟨by omega, by omega⟩
  have hW9 : (List.map (fun v => Value.category v) (List.map (zV (zcv b ext)) st)).sum ≤ 8 := by rw [zCat]; exact hw
  have hpre : ∀ U : State, U.heap = H → s.WarmedH U.vm → va_Pc (List.map (zV (zcv b ext)) (.ref a :: As)) (zPre D cA b ext Λ σ) (List.map (zV (zcv b ext)) (.ref a :: As)).toArray U := fun U hU hWm => ⟨rfl, by rw [hU]; exact hP, zKst.go hK (by rw [hU]; exact hS) hWm⟩
  have hG9 : GoodIn zW (wsV own idx y.cls y ((Cond.code y cb nL2 ret) :: zW)) := zcons hm (zcons hi9 (zcons hs9 (zcons y2 (zgood_cons y1))))
  have hrv : ∃ cell : Cell, H[zcv b ext a]? = some cell ∧ cell.vm.isStatics = false ∧ s.vm.findClass y.cls = some cell.cls := by
    have e9 : zcv b ext a = ext i := by rw [ha]; exact zcv_ext
    rw [e9, hq]
    exact vk_recv hK.2.1 hi hS
  have hrun := va_runV (e := e0) (below := below) (meth := meth) (As := List.map (zV (zcv b ext)) As) (rest := List.map (zV (zcv b ext)) st) (b := zcv b ext a) (g := F0 m pc ls (List.map (zV (zcv b ext)) st0)) (H := H) (locs := locs) (cells := k) (slots := n) (C := y.cls) (Ts := zW) ⟨hx, hb, hml, hown, hts⟩ (hM D cA b ext) (cwV n9 hts hG9 rfl rfl rfl ⟨rfl, y3.1, y3.2, y4⟩ hR9) ⟨zKst.blind, hrv, hpre⟩ rfl (by rw [List.length_map]; exact hn) hl.1 (by subst hst; show List.map (zV (zcv b ext)) _ = _; simp [zV]) (lv_room hW9) hd hcells
  exact zfin hrun hS (fun H1 locs1 hP1 hS1 => by
    have := hkk H1 locs1 ls hP1 hS1 hl
    rw [List.map_append] at this
    cases he : enc2 r2 with
    | none => rw [he] at this; exact this
    | some v9 => rw [he] at this; exact this)
theorem ze_callS {α : Type} {G : zGT} {l : Launch} {cc : ByteArray} {own : String} {nL d C N : Nat} {ini : Bool} {T : Option Value × zMem} {enc : α → Option Value} {Λ : zLay} {k n pc : Nat} {L : zLs} {st : List Value} {σ : zMem} {β : Type} {f : Option (β × zMem)} {enc2 : β → Option Value} {kf : β → zMem → Option (α × zMem)} {st0 As : List Value} {y : MethodName} {cb : ByteArray} {nL2 n9 idx dd : Nat} {ret : Option FieldType} (h : zOk G l cc own nL d C N ini) (hy : zCe y cb nL2 ret n9) (hi9 : Cond.static y ∈ zW) (hm : Cond.methodLink own idx y ∈ zW) (hdd : dd + 1 ≤ d) (hkn : k ≤ C ∧ n ≤ N) (hcon : zC l y (.code y cb nL2 ret) dd As Λ σ enc2 f) (hn : As.length = n9) (hw : (st.map fun v => v.category).sum ≤ 8) (hst : As.reverse ++ st = st0) (hd : decode cc pc = .ok (.invokestatic idx, 3)) (kk : ∀ (r : β) (S : zMem), zE G T enc Λ k n (pc + 3) L ((enc2 r).toList ++ st) S (kf r S)) : zE G T enc Λ k n pc L st0 σ (bd f kf) := by
  intro r S h1 h2 h3
  obtain ⟨r2, S2, hf, h1⟩ := zbd h1
  have hM := hcon r2 S2 hf
  have hkk := kk r2 S2 r S h1 h2 h3
  obtain ⟨y1, y2, y3, y4, y5⟩ := hy
  obtain ⟨p, e0, R, s, m, args, below, meth, c, D, cA, b, ext, Q, rfl, hx, hb, hml, hown, hts, hK, hfr, hlo, hC, hN, hini, hbs⟩ := h
  intro H locs ls hP hS hl
  have hR9 : (zroom dd 0 0).frames + 1 ≤ R.frames ∧ 8 + (nL2 + 11) + (zroom dd 0 0).locals ≤ R.locals := ⟨by show dd + 1 ≤ _; omega, by show 8 + (nL2 + 11) + 64 * dd ≤ _; omega⟩
  have hcells : k + 0 ≤ R.cells ∧ n + 0 ≤ R.slots := ⟨by omega, by omega⟩
  have hW9 : (List.map (fun v => Value.category v) (List.map (zV (zcv b ext)) st)).sum ≤ 8 := by rw [zCat]; exact hw
  have hpre : ∀ U : State, U.heap = H → s.WarmedH U.vm → va_Pc (List.map (zV (zcv b ext)) As) (zPre D cA b ext Λ σ) (List.map (zV (zcv b ext)) As).toArray U := fun U hU hWm => ⟨rfl, by rw [hU]; exact hP, zKst.go hK (by rw [hU]; exact hS) hWm⟩
  have hG9 : GoodIn zW (va_wsS own idx y ((Cond.code y cb nL2 ret) :: zW)) := zcons hm (zcons hi9 (zcons y2 (zgood_cons y1)))
  have hrun := va_runS (e := e0) (below := below) (meth := meth) (As := List.map (zV (zcv b ext)) As) (rest := List.map (zV (zcv b ext)) st) (g := F0 m pc ls (List.map (zV (zcv b ext)) st0)) (H := H) (locs := locs) (cells := k) (slots := n) (Ts := zW) ⟨hx, hb, hml, hown, hts⟩ (hM D cA b ext) (va_cwS n9 hts hG9 rfl rfl rfl ⟨y3.1, y3.2, y4⟩ hR9) ⟨zKst.blind, hpre⟩ rfl (by rw [List.length_map]; exact hn) hl.1 (by subst hst; show List.map (zV (zcv b ext)) _ = _; simp [zV]) (lv_room hW9) hd hcells
  exact zfin hrun hS (fun H1 locs1 hP1 hS1 => by
    have := hkk H1 locs1 ls hP1 hS1 hl
    rw [List.map_append] at this
    cases he : enc2 r2 with
    | none => rw [he] at this; exact this
    | some v9 => rw [he] at this; exact this)
theorem ze_callSN {α : Type} {G : zGT} {l : Launch} {cc : ByteArray} {own : String} {nL d C N : Nat} {ini : Bool} {T : Option Value × zMem} {enc : α → Option Value} {Λ : zLay} {k n pc : Nat} {L : zLs} {st : List Value} {σ : zMem} {β : Type} {f : Option (β × zMem)} {enc2 : β → Option Value} {kf : β → zMem → Option (α × zMem)} {st0 As : List Value} {y : MethodName} {cb : ByteArray} {nL2 n9 idx dd : Nat} {ret : Option FieldType} (h : zOk G l cc own nL d C N ini) (hy : zCe y cb nL2 ret n9) (hi9 : Cond.static y ∈ zW) {j : Nat} {host : String} (hm : zNest[j]? = some (own, idx, y, host)) (hdd : dd + 1 ≤ d) (hkn : k ≤ C ∧ n ≤ N) (hcon : zC l y (.code y cb nL2 ret) dd As Λ σ enc2 f) (hn : As.length = n9) (hw : (st.map fun v => v.category).sum ≤ 8) (hst : As.reverse ++ st = st0) (hd : decode cc pc = .ok (.invokestatic idx, 3)) (kk : ∀ (r : β) (S : zMem), zE G T enc Λ k n (pc + 3) L ((enc2 r).toList ++ st) S (kf r S)) : zE G T enc Λ k n pc L st0 σ (bd f kf) := by
  intro r S h1 h2 h3
  obtain ⟨r2, S2, hf, h1⟩ := zbd h1
  have hM := hcon r2 S2 hf
  have hkk := kk r2 S2 r S h1 h2 h3
  obtain ⟨y1, y2, y3, y4, y5⟩ := hy
  obtain ⟨p, e0, R, s, m, args, below, meth, c, D, cA, b, ext, Q, rfl, hx, hb, hml, hown, hts, hK, hfr, hlo, hC, hN, hini, hbs⟩ := h
  intro H locs ls hP hS hl
  have hR9 : (zroom dd 0 0).frames + 1 ≤ R.frames ∧ 8 + (nL2 + 11) + (zroom dd 0 0).locals ≤ R.locals := ⟨by show dd + 1 ≤ _; omega, by show 8 + (nL2 + 11) + 64 * dd ≤ _; omega⟩
  have hcells : k + 0 ≤ R.cells ∧ n + 0 ≤ R.slots := ⟨by omega, by omega⟩
  have hW9 : (List.map (fun v => Value.category v) (List.map (zV (zcv b ext)) st)).sum ≤ 8 := by rw [zCat]; exact hw
  have hpre : ∀ U : State, U.heap = H → s.WarmedH U.vm → va_Pc (List.map (zV (zcv b ext)) As) (zPre D cA b ext Λ σ) (List.map (zV (zcv b ext)) As).toArray U := fun U hU hWm => ⟨rfl, by rw [hU]; exact hP, zKst.go hK (by rw [hU]; exact hS) hWm⟩
  have hnest : va_Nw (.methodLinkNest own idx y host) s := hK.2.2.2.2.2.2 j _ hm
  have hrun := va_runSN (e := e0) (below := below) (meth := meth) (As := List.map (zV (zcv b ext)) As) (rest := List.map (zV (zcv b ext)) st) (g := F0 m pc ls (List.map (zV (zcv b ext)) st0)) (H := H) (locs := locs) (cells := k) (slots := n) (Ts := zW) ⟨hx, hb, hml, hown, hts⟩ (hM D cA b ext) ⟨va_cnB n9 hts (zgood_cons y1) rfl rfl rfl hnest (hts _ y2) ⟨y3.1, y3.2, y4⟩ hR9, hts _ hi9, trivial⟩ ⟨zKst.blind, hpre⟩ rfl (by rw [List.length_map]; exact hn) hl.1 (by subst hst; show List.map (zV (zcv b ext)) _ = _; simp [zV]) (lv_room hW9) hd hcells
  exact zfin hrun hS (fun H1 locs1 hP1 hS1 => by
    have := hkk H1 locs1 ls hP1 hS1 hl
    rw [List.map_append] at this
    cases he : enc2 r2 with
    | none => rw [he] at this; exact this
    | some v9 => rw [he] at this; exact this)
theorem ze_callVi {α : Type} {G : zGT} {l : Launch} {cc : ByteArray} {own : String} {nL d C N : Nat} {ini : Bool} {T : Option Value × zMem} {enc : α → Option Value} {Λ : zLay} {k n pc : Nat} {L : zLs} {st : List Value} {σ : zMem} {f : Option (Int32 × zMem)} {kf : Int32 → zMem → Option (α × zMem)} {st0 As : List Value} {y : MethodName} {cb : ByteArray} {nL2 n9 idx dd : Nat} {ret : Option FieldType} (h : zOk G l cc own nL d C N ini) (hy : zCe y cb nL2 ret n9) (hi9 : Cond.instanceMethod y ∈ zW) (hs9 : Cond.selects y.cls y y ∈ zW) (hm : Cond.methodLink own idx y ∈ zW) {a ci : Nat} {fs : List (Option (Option Nat))} {q9 : vw_C} (h9 : Λ[a]? = some (.inr (ci, fs))) (hc : vwCl[ci]? = some q9) (hq : q9.1 = y.cls) (hdd : dd + 1 ≤ d) (hkn : k ≤ C ∧ n ≤ N) (hcon : zC l y (.code y cb nL2 ret) dd (.ref a :: As) Λ σ (fun r : Int32 => some (.int r)) f) (hn : As.length = n9) (hw : (st.map fun v => v.category).sum ≤ 8) (hst : As.reverse ++ .ref a :: st = st0) (hd : decode cc pc = .ok (.invokevirtual idx, 3)) (kk : ∀ (r : Int32) (S : zMem), zE G T enc Λ k n (pc + 3) L (.int r :: st) S (kf r S)) : zE G T enc Λ k n pc L st0 σ (bd f kf) := ze_callV (enc2 := (fun r : Int32 => some (.int r))) h hy hi9 hs9 hm h9 hc hq hdd hkn hcon hn hw hst hd kk
theorem ze_callVv {α : Type} {G : zGT} {l : Launch} {cc : ByteArray} {own : String} {nL d C N : Nat} {ini : Bool} {T : Option Value × zMem} {enc : α → Option Value} {Λ : zLay} {k n pc : Nat} {L : zLs} {st : List Value} {σ : zMem} {f : Option (Unit × zMem)} {kf : Unit → zMem → Option (α × zMem)} {st0 As : List Value} {y : MethodName} {cb : ByteArray} {nL2 n9 idx dd : Nat} {ret : Option FieldType} (h : zOk G l cc own nL d C N ini) (hy : zCe y cb nL2 ret n9) (hi9 : Cond.instanceMethod y ∈ zW) (hs9 : Cond.selects y.cls y y ∈ zW) (hm : Cond.methodLink own idx y ∈ zW) {a ci : Nat} {fs : List (Option (Option Nat))} {q9 : vw_C} (h9 : Λ[a]? = some (.inr (ci, fs))) (hc : vwCl[ci]? = some q9) (hq : q9.1 = y.cls) (hdd : dd + 1 ≤ d) (hkn : k ≤ C ∧ n ≤ N) (hcon : zC l y (.code y cb nL2 ret) dd (.ref a :: As) Λ σ (fun _ : Unit => none) f) (hn : As.length = n9) (hw : (st.map fun v => v.category).sum ≤ 8) (hst : As.reverse ++ .ref a :: st = st0) (hd : decode cc pc = .ok (.invokevirtual idx, 3)) (kk : ∀ (r : Unit) (S : zMem), zE G T enc Λ k n (pc + 3) L (st) S (kf r S)) : zE G T enc Λ k n pc L st0 σ (bd f kf) := ze_callV (enc2 := (fun _ : Unit => none)) h hy hi9 hs9 hm h9 hc hq hdd hkn hcon hn hw hst hd kk
theorem ze_callVl {α : Type} {G : zGT} {l : Launch} {cc : ByteArray} {own : String} {nL d C N : Nat} {ini : Bool} {T : Option Value × zMem} {enc : α → Option Value} {Λ : zLay} {k n pc : Nat} {L : zLs} {st : List Value} {σ : zMem} {f : Option (Int64 × zMem)} {kf : Int64 → zMem → Option (α × zMem)} {st0 As : List Value} {y : MethodName} {cb : ByteArray} {nL2 n9 idx dd : Nat} {ret : Option FieldType} (h : zOk G l cc own nL d C N ini) (hy : zCe y cb nL2 ret n9) (hi9 : Cond.instanceMethod y ∈ zW) (hs9 : Cond.selects y.cls y y ∈ zW) (hm : Cond.methodLink own idx y ∈ zW) {a ci : Nat} {fs : List (Option (Option Nat))} {q9 : vw_C} (h9 : Λ[a]? = some (.inr (ci, fs))) (hc : vwCl[ci]? = some q9) (hq : q9.1 = y.cls) (hdd : dd + 1 ≤ d) (hkn : k ≤ C ∧ n ≤ N) (hcon : zC l y (.code y cb nL2 ret) dd (.ref a :: As) Λ σ (fun r : Int64 => some (.long r)) f) (hn : As.length = n9) (hw : (st.map fun v => v.category).sum ≤ 8) (hst : As.reverse ++ .ref a :: st = st0) (hd : decode cc pc = .ok (.invokevirtual idx, 3)) (kk : ∀ (r : Int64) (S : zMem), zE G T enc Λ k n (pc + 3) L (.long r :: st) S (kf r S)) : zE G T enc Λ k n pc L st0 σ (bd f kf) := ze_callV (enc2 := (fun r : Int64 => some (.long r))) h hy hi9 hs9 hm h9 hc hq hdd hkn hcon hn hw hst hd kk
theorem ze_callVr {α : Type} {G : zGT} {l : Launch} {cc : ByteArray} {own : String} {nL d C N : Nat} {ini : Bool} {T : Option Value × zMem} {enc : α → Option Value} {Λ : zLay} {k n pc : Nat} {L : zLs} {st : List Value} {σ : zMem} {f : Option (Nat × zMem)} {kf : Nat → zMem → Option (α × zMem)} {st0 As : List Value} {y : MethodName} {cb : ByteArray} {nL2 n9 idx dd : Nat} {ret : Option FieldType} (h : zOk G l cc own nL d C N ini) (hy : zCe y cb nL2 ret n9) (hi9 : Cond.instanceMethod y ∈ zW) (hs9 : Cond.selects y.cls y y ∈ zW) (hm : Cond.methodLink own idx y ∈ zW) {a ci : Nat} {fs : List (Option (Option Nat))} {q9 : vw_C} (h9 : Λ[a]? = some (.inr (ci, fs))) (hc : vwCl[ci]? = some q9) (hq : q9.1 = y.cls) (hdd : dd + 1 ≤ d) (hkn : k ≤ C ∧ n ≤ N) (hcon : zC l y (.code y cb nL2 ret) dd (.ref a :: As) Λ σ (fun r : Nat => some (.ref r)) f) (hn : As.length = n9) (hw : (st.map fun v => v.category).sum ≤ 8) (hst : As.reverse ++ .ref a :: st = st0) (hd : decode cc pc = .ok (.invokevirtual idx, 3)) (kk : ∀ (r : Nat) (S : zMem), zE G T enc Λ k n (pc + 3) L (.ref r :: st) S (kf r S)) : zE G T enc Λ k n pc L st0 σ (bd f kf) := ze_callV (enc2 := (fun r : Nat => some (.ref r))) h hy hi9 hs9 hm h9 hc hq hdd hkn hcon hn hw hst hd kk
theorem ze_callTi {α : Type} {G : zGT} {l : Launch} {cc : ByteArray} {own : String} {nL d C N : Nat} {ini : Bool} {T : Option Value × zMem} {enc : α → Option Value} {Λ : zLay} {k n pc : Nat} {L : zLs} {st : List Value} {σ : zMem} {f : Option (Int32 × zMem)} {kf : Int32 → zMem → Option (α × zMem)} {st0 As : List Value} {y : MethodName} {cb : ByteArray} {nL2 n9 idx dd : Nat} {ret : Option FieldType} (h : zOk G l cc own nL d C N ini) (hy : zCe y cb nL2 ret n9) (hi9 : Cond.instanceMethod y ∈ zW) (hs9 : Cond.selects y.cls y y ∈ zW) (hm : Cond.methodLink own idx y ∈ zW) {i a : Nat} (ha : a = 1000 + i) (hi : i < 13) (hq : y.cls = "java/lang/String") (hdd : dd + 1 ≤ d) (hkn : k ≤ C ∧ n ≤ N) (hcon : zC l y (.code y cb nL2 ret) dd (.ref a :: As) Λ σ (fun r : Int32 => some (.int r)) f) (hn : As.length = n9) (hw : (st.map fun v => v.category).sum ≤ 8) (hst : As.reverse ++ .ref a :: st = st0) (hd : decode cc pc = .ok (.invokevirtual idx, 3)) (kk : ∀ (r : Int32) (S : zMem), zE G T enc Λ k n (pc + 3) L (.int r :: st) S (kf r S)) : zE G T enc Λ k n pc L st0 σ (bd f kf) := ze_callT (enc2 := (fun r : Int32 => some (.int r))) h hy hi9 hs9 hm ha hi hq hdd hkn hcon hn hw hst hd kk
theorem ze_callTv {α : Type} {G : zGT} {l : Launch} {cc : ByteArray} {own : String} {nL d C N : Nat} {ini : Bool} {T : Option Value × zMem} {enc : α → Option Value} {Λ : zLay} {k n pc : Nat} {L : zLs} {st : List Value} {σ : zMem} {f : Option (Unit × zMem)} {kf : Unit → zMem → Option (α × zMem)} {st0 As : List Value} {y : MethodName} {cb : ByteArray} {nL2 n9 idx dd : Nat} {ret : Option FieldType} (h : zOk G l cc own nL d C N ini) (hy : zCe y cb nL2 ret n9) (hi9 : Cond.instanceMethod y ∈ zW) (hs9 : Cond.selects y.cls y y ∈ zW) (hm : Cond.methodLink own idx y ∈ zW) {i a : Nat} (ha : a = 1000 + i) (hi : i < 13) (hq : y.cls = "java/lang/String") (hdd : dd + 1 ≤ d) (hkn : k ≤ C ∧ n ≤ N) (hcon : zC l y (.code y cb nL2 ret) dd (.ref a :: As) Λ σ (fun _ : Unit => none) f) (hn : As.length = n9) (hw : (st.map fun v => v.category).sum ≤ 8) (hst : As.reverse ++ .ref a :: st = st0) (hd : decode cc pc = .ok (.invokevirtual idx, 3)) (kk : ∀ (r : Unit) (S : zMem), zE G T enc Λ k n (pc + 3) L (st) S (kf r S)) : zE G T enc Λ k n pc L st0 σ (bd f kf) := ze_callT (enc2 := (fun _ : Unit => none)) h hy hi9 hs9 hm ha hi hq hdd hkn hcon hn hw hst hd kk
theorem ze_callTl {α : Type} {G : zGT} {l : Launch} {cc : ByteArray} {own : String} {nL d C N : Nat} {ini : Bool} {T : Option Value × zMem} {enc : α → Option Value} {Λ : zLay} {k n pc : Nat} {L : zLs} {st : List Value} {σ : zMem} {f : Option (Int64 × zMem)} {kf : Int64 → zMem → Option (α × zMem)} {st0 As : List Value} {y : MethodName} {cb : ByteArray} {nL2 n9 idx dd : Nat} {ret : Option FieldType} (h : zOk G l cc own nL d C N ini) (hy : zCe y cb nL2 ret n9) (hi9 : Cond.instanceMethod y ∈ zW) (hs9 : Cond.selects y.cls y y ∈ zW) (hm : Cond.methodLink own idx y ∈ zW) {i a : Nat} (ha : a = 1000 + i) (hi : i < 13) (hq : y.cls = "java/lang/String") (hdd : dd + 1 ≤ d) (hkn : k ≤ C ∧ n ≤ N) (hcon : zC l y (.code y cb nL2 ret) dd (.ref a :: As) Λ σ (fun r : Int64 => some (.long r)) f) (hn : As.length = n9) (hw : (st.map fun v => v.category).sum ≤ 8) (hst : As.reverse ++ .ref a :: st = st0) (hd : decode cc pc = .ok (.invokevirtual idx, 3)) (kk : ∀ (r : Int64) (S : zMem), zE G T enc Λ k n (pc + 3) L (.long r :: st) S (kf r S)) : zE G T enc Λ k n pc L st0 σ (bd f kf) := ze_callT (enc2 := (fun r : Int64 => some (.long r))) h hy hi9 hs9 hm ha hi hq hdd hkn hcon hn hw hst hd kk
theorem ze_callTr {α : Type} {G : zGT} {l : Launch} {cc : ByteArray} {own : String} {nL d C N : Nat} {ini : Bool} {T : Option Value × zMem} {enc : α → Option Value} {Λ : zLay} {k n pc : Nat} {L : zLs} {st : List Value} {σ : zMem} {f : Option (Nat × zMem)} {kf : Nat → zMem → Option (α × zMem)} {st0 As : List Value} {y : MethodName} {cb : ByteArray} {nL2 n9 idx dd : Nat} {ret : Option FieldType} (h : zOk G l cc own nL d C N ini) (hy : zCe y cb nL2 ret n9) (hi9 : Cond.instanceMethod y ∈ zW) (hs9 : Cond.selects y.cls y y ∈ zW) (hm : Cond.methodLink own idx y ∈ zW) {i a : Nat} (ha : a = 1000 + i) (hi : i < 13) (hq : y.cls = "java/lang/String") (hdd : dd + 1 ≤ d) (hkn : k ≤ C ∧ n ≤ N) (hcon : zC l y (.code y cb nL2 ret) dd (.ref a :: As) Λ σ (fun r : Nat => some (.ref r)) f) (hn : As.length = n9) (hw : (st.map fun v => v.category).sum ≤ 8) (hst : As.reverse ++ .ref a :: st = st0) (hd : decode cc pc = .ok (.invokevirtual idx, 3)) (kk : ∀ (r : Nat) (S : zMem), zE G T enc Λ k n (pc + 3) L (.ref r :: st) S (kf r S)) : zE G T enc Λ k n pc L st0 σ (bd f kf) := ze_callT (enc2 := (fun r : Nat => some (.ref r))) h hy hi9 hs9 hm ha hi hq hdd hkn hcon hn hw hst hd kk
theorem ze_callSi {α : Type} {G : zGT} {l : Launch} {cc : ByteArray} {own : String} {nL d C N : Nat} {ini : Bool} {T : Option Value × zMem} {enc : α → Option Value} {Λ : zLay} {k n pc : Nat} {L : zLs} {st : List Value} {σ : zMem} {f : Option (Int32 × zMem)} {kf : Int32 → zMem → Option (α × zMem)} {st0 As : List Value} {y : MethodName} {cb : ByteArray} {nL2 n9 idx dd : Nat} {ret : Option FieldType} (h : zOk G l cc own nL d C N ini) (hy : zCe y cb nL2 ret n9) (hi9 : Cond.static y ∈ zW) (hm : Cond.methodLink own idx y ∈ zW) (hdd : dd + 1 ≤ d) (hkn : k ≤ C ∧ n ≤ N) (hcon : zC l y (.code y cb nL2 ret) dd As Λ σ (fun r : Int32 => some (.int r)) f) (hn : As.length = n9) (hw : (st.map fun v => v.category).sum ≤ 8) (hst : As.reverse ++ st = st0) (hd : decode cc pc = .ok (.invokestatic idx, 3)) (kk : ∀ (r : Int32) (S : zMem), zE G T enc Λ k n (pc + 3) L (.int r :: st) S (kf r S)) : zE G T enc Λ k n pc L st0 σ (bd f kf) := ze_callS (enc2 := (fun r : Int32 => some (.int r))) h hy hi9 hm hdd hkn hcon hn hw hst hd kk
theorem ze_callSv {α : Type} {G : zGT} {l : Launch} {cc : ByteArray} {own : String} {nL d C N : Nat} {ini : Bool} {T : Option Value × zMem} {enc : α → Option Value} {Λ : zLay} {k n pc : Nat} {L : zLs} {st : List Value} {σ : zMem} {f : Option (Unit × zMem)} {kf : Unit → zMem → Option (α × zMem)} {st0 As : List Value} {y : MethodName} {cb : ByteArray} {nL2 n9 idx dd : Nat} {ret : Option FieldType} (h : zOk G l cc own nL d C N ini) (hy : zCe y cb nL2 ret n9) (hi9 : Cond.static y ∈ zW) (hm : Cond.methodLink own idx y ∈ zW) (hdd : dd + 1 ≤ d) (hkn : k ≤ C ∧ n ≤ N) (hcon : zC l y (.code y cb nL2 ret) dd As Λ σ (fun _ : Unit => none) f) (hn : As.length = n9) (hw : (st.map fun v => v.category).sum ≤ 8) (hst : As.reverse ++ st = st0) (hd : decode cc pc = .ok (.invokestatic idx, 3)) (kk : ∀ (r : Unit) (S : zMem), zE G T enc Λ k n (pc + 3) L (st) S (kf r S)) : zE G T enc Λ k n pc L st0 σ (bd f kf) := ze_callS (enc2 := (fun _ : Unit => none)) h hy hi9 hm hdd hkn hcon hn hw hst hd kk
theorem ze_callSl {α : Type} {G : zGT} {l : Launch} {cc : ByteArray} {own : String} {nL d C N : Nat} {ini : Bool} {T : Option Value × zMem} {enc : α → Option Value} {Λ : zLay} {k n pc : Nat} {L : zLs} {st : List Value} {σ : zMem} {f : Option (Int64 × zMem)} {kf : Int64 → zMem → Option (α × zMem)} {st0 As : List Value} {y : MethodName} {cb : ByteArray} {nL2 n9 idx dd : Nat} {ret : Option FieldType} (h : zOk G l cc own nL d C N ini) (hy : zCe y cb nL2 ret n9) (hi9 : Cond.static y ∈ zW) (hm : Cond.methodLink own idx y ∈ zW) (hdd : dd + 1 ≤ d) (hkn : k ≤ C ∧ n ≤ N) (hcon : zC l y (.code y cb nL2 ret) dd As Λ σ (fun r : Int64 => some (.long r)) f) (hn : As.length = n9) (hw : (st.map fun v => v.category).sum ≤ 8) (hst : As.reverse ++ st = st0) (hd : decode cc pc = .ok (.invokestatic idx, 3)) (kk : ∀ (r : Int64) (S : zMem), zE G T enc Λ k n (pc + 3) L (.long r :: st) S (kf r S)) : zE G T enc Λ k n pc L st0 σ (bd f kf) := ze_callS (enc2 := (fun r : Int64 => some (.long r))) h hy hi9 hm hdd hkn hcon hn hw hst hd kk
theorem ze_callSr {α : Type} {G : zGT} {l : Launch} {cc : ByteArray} {own : String} {nL d C N : Nat} {ini : Bool} {T : Option Value × zMem} {enc : α → Option Value} {Λ : zLay} {k n pc : Nat} {L : zLs} {st : List Value} {σ : zMem} {f : Option (Nat × zMem)} {kf : Nat → zMem → Option (α × zMem)} {st0 As : List Value} {y : MethodName} {cb : ByteArray} {nL2 n9 idx dd : Nat} {ret : Option FieldType} (h : zOk G l cc own nL d C N ini) (hy : zCe y cb nL2 ret n9) (hi9 : Cond.static y ∈ zW) (hm : Cond.methodLink own idx y ∈ zW) (hdd : dd + 1 ≤ d) (hkn : k ≤ C ∧ n ≤ N) (hcon : zC l y (.code y cb nL2 ret) dd As Λ σ (fun r : Nat => some (.ref r)) f) (hn : As.length = n9) (hw : (st.map fun v => v.category).sum ≤ 8) (hst : As.reverse ++ st = st0) (hd : decode cc pc = .ok (.invokestatic idx, 3)) (kk : ∀ (r : Nat) (S : zMem), zE G T enc Λ k n (pc + 3) L (.ref r :: st) S (kf r S)) : zE G T enc Λ k n pc L st0 σ (bd f kf) := ze_callS (enc2 := (fun r : Nat => some (.ref r))) h hy hi9 hm hdd hkn hcon hn hw hst hd kk
theorem ze_callSNi {α : Type} {G : zGT} {l : Launch} {cc : ByteArray} {own : String} {nL d C N : Nat} {ini : Bool} {T : Option Value × zMem} {enc : α → Option Value} {Λ : zLay} {k n pc : Nat} {L : zLs} {st : List Value} {σ : zMem} {f : Option (Int32 × zMem)} {kf : Int32 → zMem → Option (α × zMem)} {st0 As : List Value} {y : MethodName} {cb : ByteArray} {nL2 n9 idx dd : Nat} {ret : Option FieldType} (h : zOk G l cc own nL d C N ini) (hy : zCe y cb nL2 ret n9) (hi9 : Cond.static y ∈ zW) {j : Nat} {host : String} (hm : zNest[j]? = some (own, idx, y, host)) (hdd : dd + 1 ≤ d) (hkn : k ≤ C ∧ n ≤ N) (hcon : zC l y (.code y cb nL2 ret) dd As Λ σ (fun r : Int32 => some (.int r)) f) (hn : As.length = n9) (hw : (st.map fun v => v.category).sum ≤ 8) (hst : As.reverse ++ st = st0) (hd : decode cc pc = .ok (.invokestatic idx, 3)) (kk : ∀ (r : Int32) (S : zMem), zE G T enc Λ k n (pc + 3) L (.int r :: st) S (kf r S)) : zE G T enc Λ k n pc L st0 σ (bd f kf) := ze_callSN (enc2 := (fun r : Int32 => some (.int r))) h hy hi9 hm hdd hkn hcon hn hw hst hd kk
theorem ze_callSNv {α : Type} {G : zGT} {l : Launch} {cc : ByteArray} {own : String} {nL d C N : Nat} {ini : Bool} {T : Option Value × zMem} {enc : α → Option Value} {Λ : zLay} {k n pc : Nat} {L : zLs} {st : List Value} {σ : zMem} {f : Option (Unit × zMem)} {kf : Unit → zMem → Option (α × zMem)} {st0 As : List Value} {y : MethodName} {cb : ByteArray} {nL2 n9 idx dd : Nat} {ret : Option FieldType} (h : zOk G l cc own nL d C N ini) (hy : zCe y cb nL2 ret n9) (hi9 : Cond.static y ∈ zW) {j : Nat} {host : String} (hm : zNest[j]? = some (own, idx, y, host)) (hdd : dd + 1 ≤ d) (hkn : k ≤ C ∧ n ≤ N) (hcon : zC l y (.code y cb nL2 ret) dd As Λ σ (fun _ : Unit => none) f) (hn : As.length = n9) (hw : (st.map fun v => v.category).sum ≤ 8) (hst : As.reverse ++ st = st0) (hd : decode cc pc = .ok (.invokestatic idx, 3)) (kk : ∀ (r : Unit) (S : zMem), zE G T enc Λ k n (pc + 3) L (st) S (kf r S)) : zE G T enc Λ k n pc L st0 σ (bd f kf) := ze_callSN (enc2 := (fun _ : Unit => none)) h hy hi9 hm hdd hkn hcon hn hw hst hd kk
theorem ze_callSNl {α : Type} {G : zGT} {l : Launch} {cc : ByteArray} {own : String} {nL d C N : Nat} {ini : Bool} {T : Option Value × zMem} {enc : α → Option Value} {Λ : zLay} {k n pc : Nat} {L : zLs} {st : List Value} {σ : zMem} {f : Option (Int64 × zMem)} {kf : Int64 → zMem → Option (α × zMem)} {st0 As : List Value} {y : MethodName} {cb : ByteArray} {nL2 n9 idx dd : Nat} {ret : Option FieldType} (h : zOk G l cc own nL d C N ini) (hy : zCe y cb nL2 ret n9) (hi9 : Cond.static y ∈ zW) {j : Nat} {host : String} (hm : zNest[j]? = some (own, idx, y, host)) (hdd : dd + 1 ≤ d) (hkn : k ≤ C ∧ n ≤ N) (hcon : zC l y (.code y cb nL2 ret) dd As Λ σ (fun r : Int64 => some (.long r)) f) (hn : As.length = n9) (hw : (st.map fun v => v.category).sum ≤ 8) (hst : As.reverse ++ st = st0) (hd : decode cc pc = .ok (.invokestatic idx, 3)) (kk : ∀ (r : Int64) (S : zMem), zE G T enc Λ k n (pc + 3) L (.long r :: st) S (kf r S)) : zE G T enc Λ k n pc L st0 σ (bd f kf) := ze_callSN (enc2 := (fun r : Int64 => some (.long r))) h hy hi9 hm hdd hkn hcon hn hw hst hd kk
theorem ze_callSNr {α : Type} {G : zGT} {l : Launch} {cc : ByteArray} {own : String} {nL d C N : Nat} {ini : Bool} {T : Option Value × zMem} {enc : α → Option Value} {Λ : zLay} {k n pc : Nat} {L : zLs} {st : List Value} {σ : zMem} {f : Option (Nat × zMem)} {kf : Nat → zMem → Option (α × zMem)} {st0 As : List Value} {y : MethodName} {cb : ByteArray} {nL2 n9 idx dd : Nat} {ret : Option FieldType} (h : zOk G l cc own nL d C N ini) (hy : zCe y cb nL2 ret n9) (hi9 : Cond.static y ∈ zW) {j : Nat} {host : String} (hm : zNest[j]? = some (own, idx, y, host)) (hdd : dd + 1 ≤ d) (hkn : k ≤ C ∧ n ≤ N) (hcon : zC l y (.code y cb nL2 ret) dd As Λ σ (fun r : Nat => some (.ref r)) f) (hn : As.length = n9) (hw : (st.map fun v => v.category).sum ≤ 8) (hst : As.reverse ++ st = st0) (hd : decode cc pc = .ok (.invokestatic idx, 3)) (kk : ∀ (r : Nat) (S : zMem), zE G T enc Λ k n (pc + 3) L (.ref r :: st) S (kf r S)) : zE G T enc Λ k n pc L st0 σ (bd f kf) := ze_callSN (enc2 := (fun r : Nat => some (.ref r))) h hy hi9 hm hdd hkn hcon hn hw hst hd kk
theorem ze_initI {α : Type} {G : zGT} {l : Launch} {cc : ByteArray} {own : String} {nL d C N : Nat} {ini : Bool} {T : Option Value × zMem} {enc : α → Option Value} {Λ : zLay} {k n pc : Nat} {L : zLs} {st : List Value} {σ : zMem} {f : Option (Unit × zMem)} {kf : Unit → zMem → Option (α × zMem)} {st0 As : List Value} {y : MethodName} {cb : ByteArray} {nL2 n9 idx dd mc ms : Nat} {Λ' : zLay} (h : zOk G l cc own nL d C N ini) (hy : zCe y cb nL2 none n9) (hi9 : Cond.instanceMethod y ∈ zW) (hyn : y.name = "<init>") (hm : Cond.methodLink own idx y ∈ zW) {a : Nat} (hdd : dd + 1 ≤ d) (hkn : k + mc ≤ C ∧ n + ms ≤ N) (hcon : zCI l y (.code y cb nL2 none) dd mc ms (.ref a :: As) Λ σ Λ' f) (hn : As.length = n9) (hw : (st.map fun v => v.category).sum ≤ 8) (hst : As.reverse ++ .ref a :: st = st0) (hd : decode cc pc = .ok (.invokespecial idx, 3)) (kk : ∀ S : zMem, zE G T enc Λ' (k + mc) (n + ms) (pc + 3) L st S (kf () S)) : zE G T enc Λ k n pc L st0 σ (bd f kf) := by
  intro r S h1 h2 h3
  obtain ⟨r2, S2, hf, h1⟩ := zbd h1
  have hM := hcon r2 S2 hf
  have hkk := kk S2 r S h1 h2 h3
  obtain ⟨y1, y2, y3, y4, y5⟩ := hy
  obtain ⟨p, e0, R, s, m, args, below, meth, c, D, cA, b, ext, Q, rfl, hx, hb, hml, hown, hts, hK, hfr, hlo, hC, hN, hini, hbs⟩ := h
  intro H locs ls hP hS hl
  have hR9 : (zroom dd mc ms).frames + 1 ≤ R.frames ∧ 8 + (nL2 + 11) + (zroom dd mc ms).locals ≤ R.locals := ⟨by show dd + 1 ≤ _; omega, by show 8 + (nL2 + 11) + 64 * dd ≤ _; omega⟩
  have hcells : k + mc ≤ R.cells ∧ n + ms ≤ R.slots := ⟨by omega, by omega⟩
  have hW9 : (List.map (fun v => Value.category v) (List.map (zV (zcv b ext)) st)).sum ≤ 8 := by rw [zCat]; exact hw
  have hpre : ∀ U : State, U.heap = H → s.WarmedH U.vm → va_Pc (List.map (zV (zcv b ext)) (.ref a :: As)) (zPre D cA b ext Λ σ) (List.map (zV (zcv b ext)) (.ref a :: As)).toArray U := fun U hU hWm => ⟨rfl, by rw [hU]; exact hP, zKst.go hK (by rw [hU]; exact hS) hWm⟩
  have hrun := va_runI (e := e0) (below := below) (meth := meth) (As := List.map (zV (zcv b ext)) As) (rest := List.map (zV (zcv b ext)) st) (b := zcv b ext a) (g := F0 m pc ls (List.map (zV (zcv b ext)) st0)) (H := H) (locs := locs) (cells := k) (slots := n) (Ts := zW) ⟨hx, hb, hml, hown, hts⟩ (hM D cA b ext) (cwI n9 hts (zgood_cons y1) rfl rfl rfl (hts _ y2) (hts _ hm) (hts _ hi9) hyn ⟨y3.1, y3.2, y4⟩ hR9) ⟨zKst.blind, hpre⟩ rfl (by rw [List.length_map]; exact hn) hl.1 (by subst hst; show List.map (zV (zcv b ext)) _ = _; simp [zV]) (lv_room hW9) hd hcells
  exact zfin hrun hS (fun H1 locs1 hP1 hS1 => hkk H1 locs1 ls hP1 hS1 hl)
theorem ze_initN {α : Type} {G : zGT} {l : Launch} {cc : ByteArray} {own : String} {nL d C N : Nat} {ini : Bool} {T : Option Value × zMem} {enc : α → Option Value} {Λ : zLay} {k n pc : Nat} {L : zLs} {st : List Value} {σ : zMem} {f : Option (Unit × zMem)} {kf : Unit → zMem → Option (α × zMem)} {st0 As : List Value} {y : MethodName} {cb : ByteArray} {nL2 n9 idx dd mc ms : Nat} {Λ' : zLay} (h : zOk G l cc own nL d C N ini) (hy : zCe y cb nL2 none n9) (hi9 : Cond.instanceMethod y ∈ zW) (hyn : y.name = "<init>") {j : Nat} {host : String} (hm : zNest[j]? = some (own, idx, y, host)) {a : Nat} (hdd : dd + 1 ≤ d) (hkn : k + mc ≤ C ∧ n + ms ≤ N) (hcon : zCI l y (.code y cb nL2 none) dd mc ms (.ref a :: As) Λ σ Λ' f) (hn : As.length = n9) (hw : (st.map fun v => v.category).sum ≤ 8) (hst : As.reverse ++ .ref a :: st = st0) (hd : decode cc pc = .ok (.invokespecial idx, 3)) (kk : ∀ S : zMem, zE G T enc Λ' (k + mc) (n + ms) (pc + 3) L st S (kf () S)) : zE G T enc Λ k n pc L st0 σ (bd f kf) := by
  intro r S h1 h2 h3
  obtain ⟨r2, S2, hf, h1⟩ := zbd h1
  have hM := hcon r2 S2 hf
  have hkk := kk S2 r S h1 h2 h3
  obtain ⟨y1, y2, y3, y4, y5⟩ := hy
  obtain ⟨p, e0, R, s, m, args, below, meth, c, D, cA, b, ext, Q, rfl, hx, hb, hml, hown, hts, hK, hfr, hlo, hC, hN, hini, hbs⟩ := h
  intro H locs ls hP hS hl
  have hR9 : (zroom dd mc ms).frames + 1 ≤ R.frames ∧ 8 + (nL2 + 11) + (zroom dd mc ms).locals ≤ R.locals := ⟨by show dd + 1 ≤ _; omega, by show 8 + (nL2 + 11) + 64 * dd ≤ _; omega⟩
  have hcells : k + mc ≤ R.cells ∧ n + ms ≤ R.slots := ⟨by omega, by omega⟩
  have hW9 : (List.map (fun v => Value.category v) (List.map (zV (zcv b ext)) st)).sum ≤ 8 := by rw [zCat]; exact hw
  have hpre : ∀ U : State, U.heap = H → s.WarmedH U.vm → va_Pc (List.map (zV (zcv b ext)) (.ref a :: As)) (zPre D cA b ext Λ σ) (List.map (zV (zcv b ext)) (.ref a :: As)).toArray U := fun U hU hWm => ⟨rfl, by rw [hU]; exact hP, zKst.go hK (by rw [hU]; exact hS) hWm⟩
  have hnest : va_Nw (.methodLinkNest own idx y host) s := hK.2.2.2.2.2.2 j _ hm
  have hrun := va_runIN (e := e0) (below := below) (meth := meth) (As := List.map (zV (zcv b ext)) As) (rest := List.map (zV (zcv b ext)) st) (b := zcv b ext a) (g := F0 m pc ls (List.map (zV (zcv b ext)) st0)) (H := H) (locs := locs) (cells := k) (slots := n) (Ts := zW) ⟨hx, hb, hml, hown, hts⟩ (hM D cA b ext) ⟨va_cnB n9 hts (zgood_cons y1) rfl rfl rfl hnest (hts _ y2) ⟨y3.1, y3.2, y4⟩ hR9, hyn, hts _ hi9⟩ ⟨zKst.blind, hpre⟩ rfl (by rw [List.length_map]; exact hn) hl.1 (by subst hst; show List.map (zV (zcv b ext)) _ = _; simp [zV]) (lv_room hW9) hd hcells
  exact zfin hrun hS (fun H1 locs1 hP1 hS1 => hkk H1 locs1 ls hP1 hS1 hl)
theorem ze_obj {α : Type} {G : zGT} {l : Launch} {cc : ByteArray} {own : String} {nL d C N : Nat} {ini : Bool} {T : Option Value × zMem} {enc : α → Option Value} {Λ : zLay} {k n pc : Nat} {L : zLs} {st : List Value} {σ : zMem} {e : Option (α × zMem)} (h : zOk G l cc own nL d C N ini) {a idx : Nat} (hd1 : 1 ≤ d) (hm : Cond.methodLink own idx Lib.objectInit ∈ zW) (hi9 : Cond.instanceMethod Lib.objectInit ∈ zW) (hc9 : Cond.code Lib.objectInit ⟨#[0xb1]⟩ 1 none ∈ zW) (hw : (st.map fun v => v.category).sum ≤ 8) (hd : decode cc pc = .ok (.invokespecial idx, 3)) (kk : zE G T enc Λ k n (pc + 3) L st σ e) : zE G T enc Λ k n pc L (.ref a :: st) σ e := by
  obtain ⟨p, e0, R, s, m, args, below, meth, c, D, cA, b, ext, Q, rfl, hx, hb, hml, hown, hts, hK, hfr, hlo, hC, hN, hini, hbs⟩ := h
  intro r S h1 h2 h3 H locs ls hP hS hl
  exact W.objInit hx hb hown (hts _ hm) (hts _ hi9) (hts _ hc9) rfl (by rw [hml]; exact hl.1) rfl hd (by omega) (by show 2 * 0 + (List.map (fun v => Value.category v) (List.map (zV (zcv b ext)) st)).sum + 12 ≤ _; rw [zCat]; omega) (kk r S h1 h2 h3 H locs ls hP hS hl)
def zmin (x y : Int32) : Int32 := if y < x then y else x
def zmax (x y : Int32) : Int32 := if x < y then y else x
theorem ze_mmin {α : Type} {G : zGT} {l : Launch} {cc : ByteArray} {own : String} {nL d C N : Nat} {ini : Bool} {T : Option Value × zMem} {enc : α → Option Value} {Λ : zLay} {k n pc : Nat} {L : zLs} {st : List Value} {σ : zMem} {e : Option (α × zMem)} (h : zOk G l cc own nL d C N ini) {x y : Int32} {idx : Nat} (hd1 : 1 ≤ d) (hkn : k ≤ C ∧ n ≤ N) (hm : Cond.methodLink own idx Lib.Math.min.name ∈ zW) (h5 : Cond.static Lib.Math.min.name ∈ zW) (h6 : Cond.initialized "java/lang/Math" ∈ zW) (h7 : Cond.code Lib.Math.min.name Lib.Math.min.code 2 (some .int) ∈ zW) (hw : (st.map fun v => v.category).sum ≤ 8) (hd : decode cc pc = .ok (.invokestatic idx, 3)) (kk : zE G T enc Λ k n (pc + 3) L (.int (zmin x y) :: st) σ e) : zE G T enc Λ k n pc L (.int y :: .int x :: st) σ e := by
  obtain ⟨p, e0, R, s, m, args, below, meth, c, D, cA, b, ext, Q, rfl, hx, hb, hml, hown, hts, hK, hfr, hlo, hC, hN, hini, hbs⟩ := h
  intro r S h1 h2 h3 H locs ls hP hS hl
  exact va_mmin hx hb (hml.trans hl.1.symm) hown (hts _ hm) (hts _ h5) (hts _ h6) (hts _ h7) (by omega) (by rw [zCat]; omega) (by omega) (by omega) hd (kk r S h1 h2 h3 H locs ls hP hS hl)
theorem ze_mmax {α : Type} {G : zGT} {l : Launch} {cc : ByteArray} {own : String} {nL d C N : Nat} {ini : Bool} {T : Option Value × zMem} {enc : α → Option Value} {Λ : zLay} {k n pc : Nat} {L : zLs} {st : List Value} {σ : zMem} {e : Option (α × zMem)} (h : zOk G l cc own nL d C N ini) {x y : Int32} {idx : Nat} (hd1 : 1 ≤ d) (hkn : k ≤ C ∧ n ≤ N) (hm : Cond.methodLink own idx Lib.Math.max.name ∈ zW) (h5 : Cond.static Lib.Math.max.name ∈ zW) (h6 : Cond.initialized "java/lang/Math" ∈ zW) (h7 : Cond.code Lib.Math.max.name Lib.Math.max.code 2 (some .int) ∈ zW) (hw : (st.map fun v => v.category).sum ≤ 8) (hd : decode cc pc = .ok (.invokestatic idx, 3)) (kk : zE G T enc Λ k n (pc + 3) L (.int (zmax x y) :: st) σ e) : zE G T enc Λ k n pc L (.int y :: .int x :: st) σ e := by
  obtain ⟨p, e0, R, s, m, args, below, meth, c, D, cA, b, ext, Q, rfl, hx, hb, hml, hown, hts, hK, hfr, hlo, hC, hN, hini, hbs⟩ := h
  intro r S h1 h2 h3 H locs ls hP hS hl
  exact va_mmax hx hb (hml.trans hl.1.symm) hown (hts _ hm) (hts _ h5) (hts _ h6) (hts _ h7) (by omega) (by rw [zCat]; omega) (by omega) (by omega) hd (kk r S h1 h2 h3 H locs ls hP hS hl)
def zCp (σ : zMem) (a sp b dp n : Nat) : zMem := fun x => if x = b then va_cpy (σ a) (σ b) sp dp n else σ x
def zcpOk (sp dp n : Int32) (n0 n1 : Nat) : Bool := decide (¬ sp < 0) && (decide (¬ dp < 0) && (decide (¬ n < 0) && (decide (zix sp + zix n ≤ n0) && decide (zix dp + zix n ≤ n1))))
theorem ze_copy {α : Type} {G : zGT} {l : Launch} {cc : ByteArray} {own : String} {nL d C N : Nat} {ini : Bool} {T : Option Value × zMem} {enc : α → Option Value} {Λ : zLay} {n pc : Nat} {L : zLs} {st : List Value} {σ : zMem} {e : Option (α × zMem)} (h : zOk G l cc own nL d C N ini) {a b9 n0 n1 idx : Nat} {sp dp n9 : Int32} (hd1 : 1 ≤ d) (h9 : Λ[a]? = some (.inl n0)) (h8 : Λ[b9]? = some (.inl n1)) (hm : Cond.methodLink own idx arraycopyName ∈ zW) (h5 : Cond.native arraycopyName ∈ zW) (h6 : Cond.static arraycopyName ∈ zW) (h7 : Cond.initialized "java/lang/System" ∈ zW) (hw : (st.map fun v => v.category).sum ≤ 8) (hd : decode cc pc = .ok (.invokestatic idx, 3)) (kk : zE G T enc Λ 0 n (pc + 3) L st (zCp σ a (zix sp) b9 (zix dp) (zix n9)) e) : zE G T enc Λ 0 n pc L (.int n9 :: .int dp :: .ref b9 :: .int sp :: .ref a :: st) σ (gd (zcpOk sp dp n9 n0 n1) e) := by
  intro r S h1 h2 h3
  obtain ⟨g1, h1⟩ := zgd h1
  obtain ⟨p, e0, R, s, m, args, below, meth, c, D, cA, b, ext, Q, rfl, hx, hb, hml, hown, hts, hK, hfr, hlo, hC, hN, hini, hbs⟩ := h
  intro H locs ls hP hS hl
  simp only [zcpOk, Bool.and_eq_true, decide_eq_true_eq] at g1
  obtain ⟨w1, w2, w3, w4, w5⟩ := g1
  have hb9 : b9 < Λ.length := (List.getElem?_eq_some_iff.mp h8).1
  refine zW_size hS.1 (fun hz1 => ?_)
  refine va_copyi (D := D) (cl := vwCl) (tys := [(cA, .int)]) hx hb (hml.trans hl.1.symm) hown (hts _ hm) (hts _ h5) (hts _ h6) (hts _ h7) hK.1 hP.1 hP.D hS a b9 0 0 (zWs_at h9) (zWs_at h8) rfl rfl rfl w1 w2 w3 w4 w5 (fun i hi => rfl) (by omega) (by rw [zCat]; show _ + (7 + 11) ≤ _; omega) hd (fun H1 locs1 hP1 hD1 hS1 => ?_)
  refine zW_size hS1.1 (fun hz2 => ?_)
  refine kk r S h1 h2 h3 H1 locs1 ls ⟨?_, by rw [hz2, ← hz1]; exact hP.2.1, hP.2.2⟩ hS1 hl
  have e6 := zWs_set0 (cv := zcv b ext) (cA := cA) (σ := σ) (τ := zCp σ a (zix sp) b9 (zix dp) (zix n9)) (e' := .inl n1) hb9 (fun x hx9 => by simp [zCp, hx9])
  rw [zset_same Λ b9 _ h8] at e6
  rw [← e6]
  have e7 : zCp σ a (zix sp) b9 (zix dp) (zix n9) b9 = va_cpy (σ a) (σ b9) (zix sp) (zix dp) (zix n9) := by simp [zCp]
  rw [e7]
  exact hP1
def zNw (σ : zMem) (a : Nat) : zMem := fun x => if x = a then fun _ => 0 else σ x
theorem zWs_new (cv : Nat → Nat) (cA : ClassId) (σ : zMem) (Λ : zLay) (e : zLE) : zWs cv cA (zNw σ Λ.length) 0 (Λ ++ [e]) = zWs cv cA σ 0 Λ ++ [(cv Λ.length, zCell cv cA (fun _ => 0) e)] := by
  rw [zWs_app, Nat.zero_add]
  have e1 : zNw σ Λ.length Λ.length = fun _ => 0 := by simp [zNw]
  rw [e1, zWs_congr cv cA (zNw σ Λ.length) σ Λ 0 (fun a _ h => by simp [zNw]; omega)]
theorem ze_newa {α : Type} {G : zGT} {l : Launch} {cc : ByteArray} {own : String} {nL d C N : Nat} {ini : Bool} {T : Option Value × zMem} {enc : α → Option Value} {Λ : zLay} {k n pc : Nat} {L : zLs} {st : List Value} {σ : zMem} {e : Option (α × zMem)} (h : zOk G l cc own nL d C N ini) {n9 : Int32} {M a : Nat} (h9 : Cond.arrayClass .int ∈ zW) (hn9 : ¬ n9 < 0) (hM : zix n9 = M) (hbyte : M ≤ 100000000) (ha : Λ.length = a) (ha2 : a < 1000) (hcel : k + 1 ≤ C ∧ n + M ≤ N) (hd : decode cc pc = .ok (.newarray .int, 2)) (kk : zE G T enc (Λ ++ [.inl M]) (k + 1) (n + M) (pc + 2) L (.ref a :: st) (zNw σ a) e) : zE G T enc Λ k n pc L (.int n9 :: st) σ e := by
  obtain ⟨p, e0, R, s, m, args, below, meth, c, D, cA, b, ext, Q, rfl, hx, hb, hml, hown, hts, hK, hfr, hlo, hC, hN, hini, hbs⟩ := h
  intro r S h1 h2 h3 H locs ls hP hS hl
  subst ha
  refine va_newaK hx hb (atype := .int) (hts _ h9) rfl hd rfl hn9 hM (by show M * 4 ≤ _; omega) (by omega) (by omega) rfl fun H1 cA2 e1 z1 o1 hAr hNm => ?_
  have hcA : cA2 = cA := Option.some.inj (hNm.symm.trans (hK.1.2 0 _ rfl).2)
  subst hcA
  have hlen : cA2 = cA2 := rfl
  have hsz : H.size = zcv b ext Λ.length := by rw [hP.2.1, zcv_lt ha2]
  have hP1 : va_P D vwCl (zWs (zcv b ext) cA2 (zNw σ Λ.length) 0 (Λ ++ [.inl M])) H1 := by
    rw [zWs_new]
    refine (hP.1.kept (fun q x hx9 => o1 x.1 ((hP.1 q x hx9).lt))).app (fun q x hx9 => ?_)
    have hz : q < 1 := (List.getElem?_eq_some_iff.mp hx9).1
    rw [show q = 0 by omega] at hx9
    cases hx9
    show H1[zcv b ext Λ.length]? = some (vp_cell _ _)
    rw [← hsz, e1]
    rfl
  have := kk r S h1 h2 h3 H1 locs ls ⟨hP1, by rw [z1, hP.2.1]; simp; omega, by simp; omega⟩ ⟨Nat.le_trans hS.1 (by omega), fun x g1 g2 => (o1 x (Nat.lt_of_lt_of_le g1 hS.1)).trans (hS.2.1 x g1 g2), hS.2.2⟩ hl
  rw [List.map_cons] at this
  show W p l e0 R s m args below meth c H1 locs (k + 1) (n + M) Q (F0 m (pc + 2) ls (.ref H.size :: _))
  rw [hsz]
  exact this
theorem ze_new {α : Type} {G : zGT} {l : Launch} {cc : ByteArray} {own : String} {nL d C N : Nat} {ini : Bool} {T : Option Value × zMem} {enc : α → Option Value} {Λ : zLay} {k n pc : Nat} {L : zLs} {st : List Value} {σ : zMem} {e : Option (α × zMem)} (h : zOk G l cc own nL d C N ini) {ci M a idx : Nat} {fs : List (Option (Option Nat))} {CC : String} {T9 : u_T} (ty : Nat → FieldType) (h9 : vwCl[ci]? = some (CC, T9, M)) (hw1 : ∀ w ∈ u_ws CC T9 M, w ∈ zW) (hty : ∀ q, q < M → parseFieldDescriptor (T9 q).2.2.1 = some (ty q)) (hw2 : Cond.classLink own idx CC ∈ zW) (hw3 : Cond.instantiable CC M ∈ zW) (hw4 : Cond.initialized CC ∈ zW) (hfl : fs.length = M) (hfs : ∀ q, q < M → ∀ t, fs[q]? = some t → defaultValue (ty q) = zFV (fun x => x) 0 t ∧ ∀ w, t ≠ some (some w)) (ha : Λ.length = a) (ha2 : a < 1000) (hcel : k + 1 ≤ C ∧ n + M ≤ N) (hd : decode cc pc = .ok (.new idx, 3)) (kk : zE G T enc (Λ ++ [.inr (ci, fs)]) (k + 1) (n + M) (pc + 3) L (.ref a :: st) (zNw σ a) e) : zE G T enc Λ k n pc L st σ e := by
  obtain ⟨p, e0, R, s, m, args, below, meth, c, D, cA, b, ext, Q, rfl, hx, hb, hml, hown, hts, hK, hfr, hlo, hC, hN, hini, hbs⟩ := h
  intro r S h1 h2 h3 H locs ls hP hS hl
  subst ha
  have hKn := hK.1.1 ci _ h9
  refine W.newcK hx hb hown (hts _ hw2) (hts _ hw3) (hts _ hw4) rfl hd (by omega) (by omega) hKn.2.1 rfl fun H1 kC hkC e1 z1 o1 => ?_
  have hsz : H.size = zcv b ext Λ.length := by rw [hP.2.1, zcv_lt ha2]
  have hP1 : va_P D vwCl (zWs (zcv b ext) cA (zNw σ Λ.length) 0 (Λ ++ [.inr (ci, fs)])) H1 := by
    rw [zWs_new]
    refine (hP.1.kept (fun q x hx9 => o1 x.1 ((hP.1 q x hx9).lt))).app (fun q x hx9 => ?_)
    have hz : q < 1 := (List.getElem?_eq_some_iff.mp hx9).1
    rw [show q = 0 by omega] at hx9
    cases hx9
    refine ⟨_, h9, ?_⟩
    show t_OB (zcv b ext Λ.length) _ _ _ H1 _
    rw [← hsz]
    refine (u_born ty hts hw1 hKn hkC e1 hty).to (fun q hq => ?_)
    show defaultValue (ty q) = (zFs (zcv b ext) (fun _ => 0) 0 fs).getD q .null
    have hq2 : q < fs.length := by rw [hfl]; exact hq
    have hg : fs[q]? = some fs[q] := List.getElem?_eq_getElem hq2
    have hg2 := zFs_get (zcv b ext) (fun _ => (0 : Int32)) fs 0 q _ hg
    obtain ⟨w1, w2⟩ := hfs q hq _ hg
    rw [List.getD_eq_getElem?_getD, hg2, w1]
    cases hh : fs[q] with
    | none => rfl
    | some u => cases u with
      | none => rfl
      | some w => exact absurd hh (w2 w)
  have := kk r S h1 h2 h3 H1 locs ls ⟨hP1, by rw [z1, hP.2.1]; simp; omega, by simp; omega⟩ ⟨Nat.le_trans hS.1 (by omega), fun x g1 g2 => (o1 x (Nat.lt_of_lt_of_le g1 hS.1)).trans (hS.2.1 x g1 g2), hS.2.2⟩ hl
  rw [List.map_cons] at this
  show W p l e0 R s m args below meth c H1 locs (k + 1) (n + M) Q (F0 m (pc + 3) ls (.ref H.size :: _))
  rw [hsz]
  exact this
theorem ze_getsC {α : Type} {G : zGT} {l : Launch} {cc : ByteArray} {own : String} {nL d C N : Nat} {ini : Bool} {T : Option Value × zMem} {enc : α → Option Value} {Λ : zLay} {k n pc : Nat} {L : zLs} {st : List Value} {σ : zMem} {e : Option (α × zMem)} (h : zOk G l cc own nL d C N ini) {idx : Nat} (hm : Cond.fieldLink own idx "java/lang/String" "COMPACT_STRINGS" "Z" ∈ zW) (hd : decode cc pc = .ok (.getstatic idx, 3)) (kk : zE G T enc Λ k n (pc + 3) L (.int 1 :: st) σ e) : zE G T enc Λ k n pc L st σ e := by
  obtain ⟨p, e0, R, s, m, args, below, meth, c, D, cA, b, ext, Q, rfl, hx, hb, hml, hown, hts, hK, hfr, hlo, hC, hN, hini, hbs⟩ := h
  intro r S h1 h2 h3 H locs ls hP hS hl
  exact va_gets hx hb hK.2.2.2.1 hS hown (hts _ hm) (fun _ z => z) hd (kk r S h1 h2 h3 H locs ls hP hS hl)
theorem ze_getsF {α : Type} {G : zGT} {l : Launch} {cc : ByteArray} {own : String} {nL d C N : Nat} {ini : Bool} {T : Option Value × zMem} {enc : α → Option Value} {Λ : zLay} {k n pc : Nat} {L : zLs} {st : List Value} {σ : zMem} {e : Option (α × zMem)} (h : zOk G l cc own nL d C N ini) {idx : Nat} (hm : Cond.fieldLink own idx "jdk/internal/util/Preconditions" "SIOOBE_FORMATTER" "Ljava/util/function/BiFunction;" ∈ zW) (hd : decode cc pc = .ok (.getstatic idx, 3)) (kk : ∀ v : Value, v = .null ∨ v = .ref 1040 → zE G T enc Λ k n (pc + 3) L (v :: st) σ e) : zE G T enc Λ k n pc L st σ e := by
  obtain ⟨p, e0, R, s, m, args, below, meth, c, D, cA, b, ext, Q, rfl, hx, hb, hml, hown, hts, hK, hfr, hlo, hC, hN, hini, hbs⟩ := h
  intro r S h1 h2 h3 H locs ls hP hS hl
  rcases hK.2.2.2.2.1 with h4 | h4
  · exact va_gets hx hb h4 hS hown (hts _ hm) (fun _ z => z) hd (kk .null (Or.inl rfl) r S h1 h2 h3 H locs ls hP hS hl)
  · have := kk (.ref 1040) (Or.inr rfl) r S h1 h2 h3 H locs ls hP hS hl
    exact va_gets hx hb h4 hS hown (hts _ hm) (fun _ z => z) hd this
theorem ze_getsA {α : Type} {G : zGT} {l : Launch} {cc : ByteArray} {own : String} {nL d C N : Nat} {ini : Bool} {T : Option Value × zMem} {enc : α → Option Value} {Λ : zLay} {k n pc : Nat} {L : zLs} {st : List Value} {σ : zMem} {e : Option (α × zMem)} (h : zOk G l cc own nL d C N ini) {idx : Nat} (hm : Cond.fieldLink own idx "CoalIsLent$Kinds" "ABOVE" "[I" ∈ zW) (hd : decode cc pc = .ok (.getstatic idx, 3)) (kk : zE G T enc Λ k n (pc + 3) L (.ref 1041 :: st) σ e) : zE G T enc Λ k n pc L st σ e := by
  obtain ⟨p, e0, R, s, m, args, below, meth, c, D, cA, b, ext, Q, rfl, hx, hb, hml, hown, hts, hK, hfr, hlo, hC, hN, hini, hbs⟩ := h
  intro r S h1 h2 h3 H locs ls hP hS hl
  exact va_gets hx hb hK.2.2.2.2.2.1.1 hS hown (hts _ hm) (fun _ z => z) hd (kk r S h1 h2 h3 H locs ls hP hS hl)
theorem ze_lenA {α : Type} {G : zGT} {l : Launch} {cc : ByteArray} {own : String} {nL d C N : Nat} {ini : Bool} {T : Option Value × zMem} {enc : α → Option Value} {Λ : zLay} {k n pc : Nat} {L : zLs} {st : List Value} {σ : zMem} {e : Option (α × zMem)} (h : zOk G l cc own nL d C N ini) (hd : decode cc pc = .ok (.arraylength, 1)) (kk : zE G T enc Λ k n (pc + 1) L (.int 6 :: st) σ e) : zE G T enc Λ k n pc L (.ref 1041 :: st) σ e := by
  obtain ⟨p, e0, R, s, m, args, below, meth, c, D, cA, b, ext, Q, rfl, hx, hb, hml, hown, hts, hK, hfr, hlo, hC, hN, hini, hbs⟩ := h
  intro r S h1 h2 h3 H locs ls hP hS hl
  exact va_tlen hx hb hK.2.2.2.2.2.1.2 hS rfl hd (kk r S h1 h2 h3 H locs ls hP hS hl)
theorem ze_ialdA {α : Type} {G : zGT} {l : Launch} {cc : ByteArray} {own : String} {nL d C N : Nat} {ini : Bool} {T : Option Value × zMem} {enc : α → Option Value} {Λ : zLay} {k n pc : Nat} {L : zLs} {st : List Value} {σ : zMem} {e : Option (α × zMem)} (h : zOk G l cc own nL d C N ini) {i : Int32} (hd : decode cc pc = .ok (.iaload, 1)) (kk : zE G T enc Λ k n (pc + 1) L (.int (zAb.getD (zix i) 0) :: st) σ e) : zE G T enc Λ k n pc L (.int i :: .ref 1041 :: st) σ (gd (zib i 6) e) := by
  intro r S h1 h2 h3
  obtain ⟨g1, h1⟩ := zgd h1
  obtain ⟨p, e0, R, s, m, args, below, meth, c, D, cA, b, ext, Q, rfl, hx, hb, hml, hown, hts, hK, hfr, hlo, hC, hN, hini, hbs⟩ := h
  intro H locs ls hP hS hl
  exact va_ti hx hb hK.2.2.2.2.2.1.2 hS (zib_in g1) rfl hd (kk r S h1 h2 h3 H locs ls hP hS hl)
theorem ze_ldcS {α : Type} {G : zGT} {l : Launch} {cc : ByteArray} {own : String} {nL d C N : Nat} {ini : Bool} {T : Option Value × zMem} {enc : α → Option Value} {Λ : zLay} {k n pc : Nat} {L : zLs} {st : List Value} {σ : zMem} {e : Option (α × zMem)} (h : zOk G l cc own nL d C N ini) {i : Nat} {q : Nat} {tx : String} (hi : zStr[i]? = some (own, q, tx)) (hd : decode cc pc = .ok (.ldc q, 2)) (kk : zE G T enc Λ k n (pc + 2) L (.ref (1000 + i) :: st) σ e) : zE G T enc Λ k n pc L st σ e := by
  obtain ⟨p, e0, R, s, m, args, below, meth, c, D, cA, b, ext, Q, rfl, hx, hb, hml, hown, hts, hK, hfr, hlo, hC, hN, hini, hbs⟩ := h
  intro r S h1 h2 h3 H locs ls hP hS hl
  have e9 : zcv b ext (1000 + i) = ext i := zcv_ext
  have := kk r S h1 h2 h3 H locs ls hP hS hl
  rw [List.map_cons] at this
  refine va_ldcS hx hb hown (hK.2.2.1 i _ hi) hd ?_
  rw [← e9]
  exact this
theorem ze_getSv {α : Type} {G : zGT} {l : Launch} {cc : ByteArray} {own : String} {nL d C N : Nat} {ini : Bool} {T : Option Value × zMem} {enc : α → Option Value} {Λ : zLay} {k n pc : Nat} {L : zLs} {st : List Value} {σ : zMem} {e : Option (α × zMem)} (h : zOk G l cc own nL d C N ini) {i idx : Nat} (hi : i < 13) (hm : Cond.fieldLink own idx "java/lang/String" "value" "[B" ∈ zW) (hd : decode cc pc = .ok (.getfield idx, 3)) (kk : zE G T enc Λ k n (pc + 3) L (.ref (1020 + i) :: st) σ e) : zE G T enc Λ k n pc L (.ref (1000 + i) :: st) σ e := by
  obtain ⟨p, e0, R, s, m, args, below, meth, c, D, cA, b, ext, Q, rfl, hx, hb, hml, hown, hts, hK, hfr, hlo, hC, hN, hini, hbs⟩ := h
  intro r S h1 h2 h3 H locs ls hP hS hl
  have := kk r S h1 h2 h3 H locs ls hP hS hl
  rw [List.map_cons] at this ⊢
  show W _ _ _ _ _ _ _ _ _ _ _ _ _ _ _ (F0 m pc ls (.ref (zcv b ext (1000 + i)) :: _))
  rw [zcv_ext]
  refine vk_getf hx hb (hK.2.1.1 i hi).2.2.1 hS hown (hts _ hm) (fun _ z => z) hd ?_
  have e8 : zcv b ext (1020 + i) = ext (20 + i) := by rw [show 1020 + i = 1000 + (20 + i) by omega]; exact zcv_ext
  change W _ _ _ _ _ _ _ _ _ _ _ _ _ _ _ (F0 m (pc + 3) ls (.ref (zcv b ext (1020 + i)) :: _)) at this
  rw [e8] at this
  exact this
theorem ze_getSc {α : Type} {G : zGT} {l : Launch} {cc : ByteArray} {own : String} {nL d C N : Nat} {ini : Bool} {T : Option Value × zMem} {enc : α → Option Value} {Λ : zLay} {k n pc : Nat} {L : zLs} {st : List Value} {σ : zMem} {e : Option (α × zMem)} (h : zOk G l cc own nL d C N ini) {i idx : Nat} (hi : i < 13) (hm : Cond.fieldLink own idx "java/lang/String" "coder" "B" ∈ zW) (hd : decode cc pc = .ok (.getfield idx, 3)) (kk : zE G T enc Λ k n (pc + 3) L (.int 0 :: st) σ e) : zE G T enc Λ k n pc L (.ref (1000 + i) :: st) σ e := by
  obtain ⟨p, e0, R, s, m, args, below, meth, c, D, cA, b, ext, Q, rfl, hx, hb, hml, hown, hts, hK, hfr, hlo, hC, hN, hini, hbs⟩ := h
  intro r S h1 h2 h3 H locs ls hP hS hl
  have := kk r S h1 h2 h3 H locs ls hP hS hl
  rw [List.map_cons] at this ⊢
  show W _ _ _ _ _ _ _ _ _ _ _ _ _ _ _ (F0 m pc ls (.ref (zcv b ext (1000 + i)) :: _))
  rw [zcv_ext]
  refine vk_getf hx hb (hK.2.1.1 i hi).2.1 hS hown (hts _ hm) (fun _ z => z) hd ?_
  skip
  exact this
theorem ze_lenB {α : Type} {G : zGT} {l : Launch} {cc : ByteArray} {own : String} {nL d C N : Nat} {ini : Bool} {T : Option Value × zMem} {enc : α → Option Value} {Λ : zLay} {k n pc : Nat} {L : zLs} {st : List Value} {σ : zMem} {e : Option (α × zMem)} (h : zOk G l cc own nL d C N ini) {i : Nat} {v : Int32} (hi : i < 13) (hv : Int32.ofNat (zLen.getD i 0) = v) (hd : decode cc pc = .ok (.arraylength, 1)) (kk : zE G T enc Λ k n (pc + 1) L (.int v :: st) σ e) : zE G T enc Λ k n pc L (.ref (1020 + i) :: st) σ e := by
  obtain ⟨p, e0, R, s, m, args, below, meth, c, D, cA, b, ext, Q, rfl, hx, hb, hml, hown, hts, hK, hfr, hlo, hC, hN, hini, hbs⟩ := h
  intro r S h1 h2 h3 H locs ls hP hS hl
  show W _ _ _ _ _ _ _ _ _ _ _ _ _ _ _ (F0 m pc ls (.ref (zcv b ext (1020 + i)) :: _))
  rw [show 1020 + i = 1000 + (20 + i) by omega, zcv_ext]
  exact va_tlen hx hb (hK.2.1.1 i hi).2.2.2 hS hv hd (kk r S h1 h2 h3 H locs ls hP hS hl)
theorem ze_bald {α : Type} {G : zGT} {l : Launch} {cc : ByteArray} {own : String} {nL d C N : Nat} {ini : Bool} {T : Option Value × zMem} {enc : α → Option Value} {Λ : zLay} {k n pc : Nat} {L : zLs} {st : List Value} {σ : zMem} {e : Option (α × zMem)} (h : zOk G l cc own nL d C N ini) {i : Nat} {j : Int32} (hi : i < 13) (hd : decode cc pc = .ok (.baload, 1)) (kk : zE G T enc Λ k n (pc + 1) L (.int ((zByt.getD i []).getD (zix j) 0) :: st) σ e) : zE G T enc Λ k n pc L (.int j :: .ref (1020 + i) :: st) σ (gd (zib j (zLen.getD i 0)) e) := by
  intro r S h1 h2 h3
  obtain ⟨g1, h1⟩ := zgd h1
  obtain ⟨p, e0, R, s, m, args, below, meth, c, D, cA, b, ext, Q, rfl, hx, hb, hml, hown, hts, hK, hfr, hlo, hC, hN, hini, hbs⟩ := h
  intro H locs ls hP hS hl
  show W _ _ _ _ _ _ _ _ _ _ _ _ _ _ _ (F0 m pc ls (.int j :: .ref (zcv b ext (1020 + i)) :: _))
  rw [show 1020 + i = 1000 + (20 + i) by omega, zcv_ext]
  exact va_tb hx hb (hK.2.1.1 i hi).2.2.2 hS (zib_in g1) rfl hd (kk r S h1 h2 h3 H locs ls hP hS hl)
theorem ze_iincN {α : Type} {G : zGT} {l : Launch} {cc : ByteArray} {own : String} {nL d C N : Nat} {ini : Bool} {T : Option Value × zMem} {enc : α → Option Value} {Λ : zLay} {k n pc : Nat} {L : zLs} {st : List Value} {σ : zMem} {ee : Int32 → Option (α × zMem)} (h : zOk G l cc own nL d C N ini) {i : Nat} {q : Int} {x : Int32} (L' : Int32 → zLs) (w : Int32) (hd : decode cc pc = .ok (.iinc i q, 3)) (hL : L[i]? = some (some (.int x))) (hv : Int32.ofInt q = w) (hn : zNl L i = true) (hlt : i < nL) (hs : ∀ v : Int32, L.set i (some (.int v)) = L' v) (kk : ∀ v : Int32, zE G T enc Λ k n (pc + 3) (L' v) st σ (ee v)) : zE G T enc Λ k n pc L st σ (nm (x + w) ee) := ze_iinc h (x + w) (L' (x + w)) hd hL (by rw [hv]) hn hlt (hs _) (kk (x + w))
theorem ze_none {α : Type} {G : zGT} {T : Option Value × zMem} {enc : α → Option Value} {Λ : zLay} {k n pc : Nat} {L : zLs} {st : List Value} {σ : zMem} : zE G T enc Λ k n pc L st σ none := fun _ _ q => by cases q
theorem ze_pc {α : Type} {G : zGT} {T : Option Value × zMem} {enc : α → Option Value} {Λ : zLay} {k n pc : Nat} {L : zLs} {st : List Value} {σ : zMem} {e : Option (α × zMem)} (pc' : Nat) (hp : pc = pc') (kk : zE G T enc Λ k n pc' L st σ e) : zE G T enc Λ k n pc L st σ e := by rw [hp]; exact kk
def zch (x : Int32) : Bool := decide ((x.toUInt32 % 65536).toInt32 = x)
theorem ze_cretG {G : zGT} {T : Option Value × zMem} {cc : ByteArray} {Λ : zLay} {k n pc : Nat} {L : zLs} {σ : zMem} {x : Int32} (hR : zR G cc (some .char) T Λ k n) (hd : decode cc pc = .ok (.ireturn, 1)) : zE G T (fun r : Int32 => some (.int r)) Λ k n pc L [.int x] σ (gd (zch x) (some (x, σ))) := fun r S h1 h2 h3 => ze_zret hR (show Value.int (x.toUInt32 % 65536).toInt32 = .int x by rw [of_decide_eq_true (zgd h1).1]) hd r S (zgd h1).2 h2 h3
theorem ze_aretU {G : zGT} {T : Option Value × zMem} {cc : ByteArray} {Λ : zLay} {k n pc : Nat} {L : zLs} {σ : zMem} {q : Nat} {nm9 : String} (hR : zR G cc (some (.object nm9)) T Λ k n) (hd : decode cc pc = .ok (.areturn, 1)) : zE G T (fun _ : Unit => some (.ref q)) Λ k n pc L [.ref q] σ (some ((), σ)) := by
  intro r S h1 h2 h3
  cases h1
  rw [h3]
  exact hR.2.2.2 pc L q nm9 hd rfl h2.symm
theorem ze_callVu {α : Type} {G : zGT} {l : Launch} {cc : ByteArray} {own : String} {nL d C N : Nat} {ini : Bool} {T : Option Value × zMem} {enc : α → Option Value} {Λ : zLay} {k n pc : Nat} {L : zLs} {st : List Value} {σ : zMem} {q8 : Nat} {f : Option (Unit × zMem)} {kf : Unit → zMem → Option (α × zMem)} {st0 As : List Value} {y : MethodName} {cb : ByteArray} {nL2 n9 idx dd : Nat} {ret : Option FieldType} (h : zOk G l cc own nL d C N ini) (hy : zCe y cb nL2 ret n9) (hi9 : Cond.instanceMethod y ∈ zW) (hs9 : Cond.selects y.cls y y ∈ zW) (hm : Cond.methodLink own idx y ∈ zW) {a ci : Nat} {fs : List (Option (Option Nat))} {q9 : vw_C} (h9 : Λ[a]? = some (.inr (ci, fs))) (hc : vwCl[ci]? = some q9) (hq : q9.1 = y.cls) (hdd : dd + 1 ≤ d) (hkn : k ≤ C ∧ n ≤ N) (hcon : zC l y (.code y cb nL2 ret) dd (.ref a :: As) Λ σ (fun _ : Unit => some (Value.ref q8)) f) (hn : As.length = n9) (hw : (st.map fun v => v.category).sum ≤ 8) (hst : As.reverse ++ .ref a :: st = st0) (hd : decode cc pc = .ok (.invokevirtual idx, 3)) (kk : ∀ (r : Unit) (S : zMem), zE G T enc Λ k n (pc + 3) L (.ref q8 :: st) S (kf r S)) : zE G T enc Λ k n pc L st0 σ (bd f kf) := ze_callV (enc2 := (fun _ : Unit => some (Value.ref q8))) h hy hi9 hs9 hm h9 hc hq hdd hkn hcon hn hw hst hd kk
end
section
-- words of the tables, by their places
theorem zin1 {w : Cond} (h : w ∈ tables_1_1) (g : goodWord w = true) : w ∈ zW := List.mem_filter.mpr ⟨List.mem_append_right _ (List.mem_append_left _ h), g⟩
theorem zin2 {w : Cond} (h : w ∈ tables_1_2) (g : goodWord w = true) : w ∈ zW := List.mem_filter.mpr ⟨List.mem_append_right _ (List.mem_append_right _ (List.mem_append_left _ h)), g⟩
theorem zin3 {w : Cond} (h : w ∈ tables_1_3) (g : goodWord w = true) : w ∈ zW := List.mem_filter.mpr ⟨List.mem_append_right _ (List.mem_append_right _ (List.mem_append_right _ (List.mem_append_left _ h))), g⟩
theorem zin4 {w : Cond} (h : w ∈ tables_1_4) (g : goodWord w = true) : w ∈ zW := List.mem_filter.mpr ⟨List.mem_append_right _ (List.mem_append_right _ (List.mem_append_right _ (List.mem_append_right _ (List.mem_append_left _ h)))), g⟩
theorem zin5 {w : Cond} (h : w ∈ tables_1_5) (g : goodWord w = true) : w ∈ zW := List.mem_filter.mpr ⟨List.mem_append_right _ (List.mem_append_right _ (List.mem_append_right _ (List.mem_append_right _ (List.mem_append_right _ (List.mem_append_left _ h))))), g⟩
theorem zin6 {w : Cond} (h : w ∈ tables_1_6) (g : goodWord w = true) : w ∈ zW := List.mem_filter.mpr ⟨List.mem_append_right _ (List.mem_append_right _ (List.mem_append_right _ (List.mem_append_right _ (List.mem_append_right _ (List.mem_append_right _ h))))), g⟩
theorem zini_L : Cond.initialized RL ∈ zW := zin1 (List.mem_of_getElem? (i := 0) (by decide +kernel)) rfl
theorem zini_X6 : Cond.initialized RX6 ∈ zW := zin1 (List.mem_of_getElem? (i := 1) (by decide +kernel)) rfl
theorem zini_X4 : Cond.initialized RX4 ∈ zW := zin1 (List.mem_of_getElem? (i := 2) (by decide +kernel)) rfl
theorem zini_X2 : Cond.initialized RX2 ∈ zW := zin1 (List.mem_of_getElem? (i := 3) (by decide +kernel)) rfl
theorem zini_J0 : Cond.initialized RJ0 ∈ zW := zin1 (List.mem_of_getElem? (i := 4) (by decide +kernel)) rfl
theorem zini_J1 : Cond.initialized RJ1 ∈ zW := zin1 (List.mem_of_getElem? (i := 5) (by decide +kernel)) rfl
theorem zini_J3 : Cond.initialized RJ3 ∈ zW := zin1 (List.mem_of_getElem? (i := 6) (by decide +kernel)) rfl
theorem zini_J2 : Cond.initialized RJ2 ∈ zW := zin1 (List.mem_of_getElem? (i := 7) (by decide +kernel)) rfl
theorem zini_X0 : Cond.initialized RX0 ∈ zW := zin1 (List.mem_of_getElem? (i := 8) (by decide +kernel)) rfl
theorem zini_J10 : Cond.initialized RJ10 ∈ zW := zin1 (List.mem_of_getElem? (i := 9) (by decide +kernel)) rfl
theorem zini_X5 : Cond.initialized RX5 ∈ zW := zin1 (List.mem_of_getElem? (i := 10) (by decide +kernel)) rfl
theorem zini_X3 : Cond.initialized RX3 ∈ zW := zin1 (List.mem_of_getElem? (i := 11) (by decide +kernel)) rfl
theorem zini_X7 : Cond.initialized RX7 ∈ zW := zin1 (List.mem_of_getElem? (i := 12) (by decide +kernel)) rfl
theorem zini_J9 : Cond.initialized RJ9 ∈ zW := zin1 (List.mem_of_getElem? (i := 13) (by decide +kernel)) rfl
theorem zini_X1 : Cond.initialized RX1 ∈ zW := zin1 (List.mem_of_getElem? (i := 14) (by decide +kernel)) rfl
theorem zini_J6 : Cond.initialized RJ6 ∈ zW := zin1 (List.mem_of_getElem? (i := 15) (by decide +kernel)) rfl
theorem zce_X2_emit : zCe yX2_emit cX2_emit 2 none 1 := ⟨zin1 (List.mem_of_getElem? (i := 226) rfl) rfl, zini_X2, ⟨by decide +kernel, by decide +kernel⟩, by decide +kernel, by decide⟩
theorem zi_X2_emit : Cond.instanceMethod yX2_emit ∈ zW := zin1 (List.mem_of_getElem? (i := 225) (by decide +kernel)) rfl
theorem zs_X2_emit : Cond.selects yX2_emit.cls yX2_emit yX2_emit ∈ zW := zinp 13 (by decide +kernel) rfl
theorem zce_X2_byteAt : zCe yX2_byteAt cX2_byteAt 2 (some .int) 1 := ⟨zin1 (List.mem_of_getElem? (i := 149) rfl) rfl, zini_X2, ⟨by decide +kernel, by decide +kernel⟩, by decide +kernel, by decide⟩
theorem zi_X2_byteAt : Cond.instanceMethod yX2_byteAt ∈ zW := zin1 (List.mem_of_getElem? (i := 148) (by decide +kernel)) rfl
theorem zs_X2_byteAt : Cond.selects yX2_byteAt.cls yX2_byteAt yX2_byteAt ∈ zW := zinp 1 (by decide +kernel) rfl
theorem zce_X6_isFromTo : zCe yX6_isFromTo cX6_isFromTo 3 (some .boolean) 3 := ⟨zin1 (List.mem_of_getElem? (i := 158) rfl) rfl, zini_X6, ⟨by decide +kernel, by decide +kernel⟩, by decide +kernel, by decide⟩
theorem zt_X6_isFromTo : Cond.static yX6_isFromTo ∈ zW := zin1 (List.mem_of_getElem? (i := 157) (by decide +kernel)) rfl
theorem zce_X2_isLetter : zCe yX2_isLetter cX2_isLetter 1 (some .boolean) 1 := ⟨zin1 (List.mem_of_getElem? (i := 155) rfl) rfl, zini_X2, ⟨by decide +kernel, by decide +kernel⟩, by decide +kernel, by decide⟩
theorem zt_X2_isLetter : Cond.static yX2_isLetter ∈ zW := zin1 (List.mem_of_getElem? (i := 154) (by decide +kernel)) rfl
theorem zce_X2_endOfWord : zCe yX2_endOfWord cX2_endOfWord 3 (some .int) 0 := ⟨zin1 (List.mem_of_getElem? (i := 162) rfl) rfl, zini_X2, ⟨by decide +kernel, by decide +kernel⟩, by decide +kernel, by decide⟩
theorem zi_X2_endOfWord : Cond.instanceMethod yX2_endOfWord ∈ zW := zin1 (List.mem_of_getElem? (i := 161) (by decide +kernel)) rfl
theorem zs_X2_endOfWord : Cond.selects yX2_endOfWord.cls yX2_endOfWord yX2_endOfWord ∈ zW := zinp 2 (by decide +kernel) rfl
theorem zce_X2_isBlank : zCe yX2_isBlank cX2_isBlank 1 (some .boolean) 1 := ⟨zin1 (List.mem_of_getElem? (i := 152) rfl) rfl, zini_X2, ⟨by decide +kernel, by decide +kernel⟩, by decide +kernel, by decide⟩
theorem zt_X2_isBlank : Cond.static yX2_isBlank ∈ zW := zin1 (List.mem_of_getElem? (i := 151) (by decide +kernel)) rfl
theorem zce_X2_isDigit : zCe yX2_isDigit cX2_isDigit 1 (some .boolean) 1 := ⟨zin1 (List.mem_of_getElem? (i := 191) rfl) rfl, zini_X2, ⟨by decide +kernel, by decide +kernel⟩, by decide +kernel, by decide⟩
theorem zt_X2_isDigit : Cond.static yX2_isDigit ∈ zW := zin1 (List.mem_of_getElem? (i := 190) (by decide +kernel)) rfl
theorem zce_X2_isSign : zCe yX2_isSign cX2_isSign 1 (some .boolean) 1 := ⟨zin1 (List.mem_of_getElem? (i := 198) rfl) rfl, zini_X2, ⟨by decide +kernel, by decide +kernel⟩, by decide +kernel, by decide⟩
theorem zt_X2_isSign : Cond.static yX2_isSign ∈ zW := zin1 (List.mem_of_getElem? (i := 197) (by decide +kernel)) rfl
theorem zce_J0_isLatin1_aae02 : zCe yJ0_isLatin1_aae02 cJ0_isLatin1_aae02 1 (some .boolean) 0 := ⟨zin1 (List.mem_of_getElem? (i := 103) rfl) rfl, zini_J0, ⟨by decide +kernel, by decide +kernel⟩, by decide +kernel, by decide⟩
theorem zi_J0_isLatin1_aae02 : Cond.instanceMethod yJ0_isLatin1_aae02 ∈ zW := zin1 (List.mem_of_getElem? (i := 101) (by decide +kernel)) rfl
theorem zs_J0_isLatin1_aae02 : Cond.selects yJ0_isLatin1_aae02.cls yJ0_isLatin1_aae02 yJ0_isLatin1_aae02 ∈ zW := zin1 (List.mem_of_getElem? (i := 102) (by decide +kernel)) rfl
theorem zce_J3_checkIndex_8e157 : zCe yJ3_checkIndex_8e157 cJ3_checkIndex_8e157 3 (some .int) 3 := ⟨zin1 (List.mem_of_getElem? (i := 114) rfl) rfl, zini_J3, ⟨by decide +kernel, by decide +kernel⟩, by decide +kernel, by decide⟩
theorem zt_J3_checkIndex_8e157 : Cond.static yJ3_checkIndex_8e157 ∈ zW := zin1 (List.mem_of_getElem? (i := 113) (by decide +kernel)) rfl
theorem zce_J0_checkIndex_df160 : zCe yJ0_checkIndex_df160 cJ0_checkIndex_df160 2 none 2 := ⟨zin1 (List.mem_of_getElem? (i := 109) rfl) rfl, zini_J0, ⟨by decide +kernel, by decide +kernel⟩, by decide +kernel, by decide⟩
theorem zt_J0_checkIndex_df160 : Cond.static yJ0_checkIndex_df160 ∈ zW := zin1 (List.mem_of_getElem? (i := 108) (by decide +kernel)) rfl
theorem zce_J1_charAt_3b067 : zCe yJ1_charAt_3b067 cJ1_charAt_3b067 2 (some .char) 2 := ⟨zin1 (List.mem_of_getElem? (i := 106) rfl) rfl, zini_J1, ⟨by decide +kernel, by decide +kernel⟩, by decide +kernel, by decide⟩
theorem zt_J1_charAt_3b067 : Cond.static yJ1_charAt_3b067 ∈ zW := zin1 (List.mem_of_getElem? (i := 105) (by decide +kernel)) rfl
theorem zce_J0_charAt_5068e : zCe yJ0_charAt_5068e cJ0_charAt_5068e 2 (some .char) 1 := ⟨zin1 (List.mem_of_getElem? (i := 99) rfl) rfl, zini_J0, ⟨by decide +kernel, by decide +kernel⟩, by decide +kernel, by decide⟩
theorem zi_J0_charAt_5068e : Cond.instanceMethod yJ0_charAt_5068e ∈ zW := zin1 (List.mem_of_getElem? (i := 97) (by decide +kernel)) rfl
theorem zs_J0_charAt_5068e : Cond.selects yJ0_charAt_5068e.cls yJ0_charAt_5068e yJ0_charAt_5068e ∈ zW := zin1 (List.mem_of_getElem? (i := 98) (by decide +kernel)) rfl
theorem zce_J0_coder_7d493 : zCe yJ0_coder_7d493 cJ0_coder_7d493 1 (some .byte) 0 := ⟨zin1 (List.mem_of_getElem? (i := 93) rfl) rfl, zini_J0, ⟨by decide +kernel, by decide +kernel⟩, by decide +kernel, by decide⟩
theorem zi_J0_coder_7d493 : Cond.instanceMethod yJ0_coder_7d493 ∈ zW := zin1 (List.mem_of_getElem? (i := 91) (by decide +kernel)) rfl
theorem zs_J0_coder_7d493 : Cond.selects yJ0_coder_7d493.cls yJ0_coder_7d493 yJ0_coder_7d493 ∈ zW := zin1 (List.mem_of_getElem? (i := 92) (by decide +kernel)) rfl
theorem zce_J0_length_8abf5 : zCe yJ0_length_8abf5 cJ0_length_8abf5 1 (some .int) 0 := ⟨zin1 (List.mem_of_getElem? (i := 89) rfl) rfl, zini_J0, ⟨by decide +kernel, by decide +kernel⟩, by decide +kernel, by decide⟩
theorem zi_J0_length_8abf5 : Cond.instanceMethod yJ0_length_8abf5 ∈ zW := zin1 (List.mem_of_getElem? (i := 87) (by decide +kernel)) rfl
theorem zs_J0_length_8abf5 : Cond.selects yJ0_length_8abf5.cls yJ0_length_8abf5 yJ0_length_8abf5 ∈ zW := zin1 (List.mem_of_getElem? (i := 88) (by decide +kernel)) rfl
theorem zce_X2_isRead : zCe yX2_isRead cX2_isRead 3 (some .boolean) 1 := ⟨zin1 (List.mem_of_getElem? (i := 171) rfl) rfl, zini_X2, ⟨by decide +kernel, by decide +kernel⟩, by decide +kernel, by decide⟩
theorem zi_X2_isRead : Cond.instanceMethod yX2_isRead ∈ zW := zin1 (List.mem_of_getElem? (i := 170) (by decide +kernel)) rfl
theorem zs_X2_isRead : Cond.selects yX2_isRead.cls yX2_isRead yX2_isRead ∈ zW := zinp 4 (by decide +kernel) rfl
theorem zce_X2_keyRead : zCe yX2_keyRead cX2_keyRead 1 (some .int) 0 := ⟨zin1 (List.mem_of_getElem? (i := 182) rfl) rfl, zini_X2, ⟨by decide +kernel, by decide +kernel⟩, by decide +kernel, by decide⟩
theorem zi_X2_keyRead : Cond.instanceMethod yX2_keyRead ∈ zW := zin1 (List.mem_of_getElem? (i := 181) (by decide +kernel)) rfl
theorem zs_X2_keyRead : Cond.selects yX2_keyRead.cls yX2_keyRead yX2_keyRead ∈ zW := zinp 5 (by decide +kernel) rfl
theorem zce_X2_nameRead : zCe yX2_nameRead cX2_nameRead 1 (some .int) 0 := ⟨zin1 (List.mem_of_getElem? (i := 166) rfl) rfl, zini_X2, ⟨by decide +kernel, by decide +kernel⟩, by decide +kernel, by decide⟩
theorem zi_X2_nameRead : Cond.instanceMethod yX2_nameRead ∈ zW := zin1 (List.mem_of_getElem? (i := 165) (by decide +kernel)) rfl
theorem zs_X2_nameRead : Cond.selects yX2_nameRead.cls yX2_nameRead yX2_nameRead ∈ zW := zinp 3 (by decide +kernel) rfl
theorem zce_X2_readNumber : zCe yX2_readNumber cX2_readNumber 2 none 0 := ⟨zin1 (List.mem_of_getElem? (i := 195) rfl) rfl, zini_X2, ⟨by decide +kernel, by decide +kernel⟩, by decide +kernel, by decide⟩
theorem zi_X2_readNumber : Cond.instanceMethod yX2_readNumber ∈ zW := zin1 (List.mem_of_getElem? (i := 194) (by decide +kernel)) rfl
theorem zs_X2_readNumber : Cond.selects yX2_readNumber.cls yX2_readNumber yX2_readNumber ∈ zW := zinp 6 (by decide +kernel) rfl
theorem zce_X2_readToken : zCe yX2_readToken cX2_readToken 2 none 0 := ⟨zin1 (List.mem_of_getElem? (i := 145) rfl) rfl, zini_X2, ⟨by decide +kernel, by decide +kernel⟩, by decide +kernel, by decide⟩
theorem zi_X2_readToken : Cond.instanceMethod yX2_readToken ∈ zW := zin1 (List.mem_of_getElem? (i := 144) (by decide +kernel)) rfl
theorem zs_X2_readToken : Cond.selects yX2_readToken.cls yX2_readToken yX2_readToken ∈ zW := zinp 0 (by decide +kernel) rfl
theorem zce_X2_readOr : zCe yX2_readOr cX2_readOr 3 none 1 := ⟨zin1 (List.mem_of_getElem? (i := 210) rfl) rfl, zini_X2, ⟨by decide +kernel, by decide +kernel⟩, by decide +kernel, by decide⟩
theorem zi_X2_readOr : Cond.instanceMethod yX2_readOr ∈ zW := zin1 (List.mem_of_getElem? (i := 209) (by decide +kernel)) rfl
theorem zs_X2_readOr : Cond.selects yX2_readOr.cls yX2_readOr yX2_readOr ∈ zW := zinp 9 (by decide +kernel) rfl
theorem zce_X2_readAnd : zCe yX2_readAnd cX2_readAnd 3 none 1 := ⟨zin1 (List.mem_of_getElem? (i := 214) rfl) rfl, zini_X2, ⟨by decide +kernel, by decide +kernel⟩, by decide +kernel, by decide⟩
theorem zi_X2_readAnd : Cond.instanceMethod yX2_readAnd ∈ zW := zin1 (List.mem_of_getElem? (i := 213) (by decide +kernel)) rfl
theorem zs_X2_readAnd : Cond.selects yX2_readAnd.cls yX2_readAnd yX2_readAnd ∈ zW := zinp 10 (by decide +kernel) rfl
theorem zce_X2_fail : zCe yX2_fail cX2_fail 1 none 0 := ⟨zin1 (List.mem_of_getElem? (i := 206) rfl) rfl, zini_X2, ⟨by decide +kernel, by decide +kernel⟩, by decide +kernel, by decide⟩
theorem zi_X2_fail : Cond.instanceMethod yX2_fail ∈ zW := zin1 (List.mem_of_getElem? (i := 205) (by decide +kernel)) rfl
theorem zs_X2_fail : Cond.selects yX2_fail.cls yX2_fail yX2_fail ∈ zW := zinp 8 (by decide +kernel) rfl
theorem zce_X2_opens : zCe yX2_opens cX2_opens 2 (some .boolean) 1 := ⟨zin1 (List.mem_of_getElem? (i := 222) rfl) rfl, zini_X2, ⟨by decide +kernel, by decide +kernel⟩, by decide +kernel, by decide⟩
theorem zi_X2_opens : Cond.instanceMethod yX2_opens ∈ zW := zin1 (List.mem_of_getElem? (i := 221) (by decide +kernel)) rfl
theorem zs_X2_opens : Cond.selects yX2_opens.cls yX2_opens yX2_opens ∈ zW := zinp 12 (by decide +kernel) rfl
theorem zce_X2_readNot : zCe yX2_readNot cX2_readNot 3 none 1 := ⟨zin1 (List.mem_of_getElem? (i := 218) rfl) rfl, zini_X2, ⟨by decide +kernel, by decide +kernel⟩, by decide +kernel, by decide⟩
theorem zi_X2_readNot : Cond.instanceMethod yX2_readNot ∈ zW := zin1 (List.mem_of_getElem? (i := 217) (by decide +kernel)) rfl
theorem zs_X2_readNot : Cond.selects yX2_readNot.cls yX2_readNot yX2_readNot ∈ zW := zinp 11 (by decide +kernel) rfl
theorem zce_X2_readSum : zCe yX2_readSum cX2_readSum 4 none 1 := ⟨zin1 (List.mem_of_getElem? (i := 230) rfl) rfl, zini_X2, ⟨by decide +kernel, by decide +kernel⟩, by decide +kernel, by decide⟩
theorem zi_X2_readSum : Cond.instanceMethod yX2_readSum ∈ zW := zin1 (List.mem_of_getElem? (i := 229) (by decide +kernel)) rfl
theorem zs_X2_readSum : Cond.selects yX2_readSum.cls yX2_readSum yX2_readSum ∈ zW := zinp 14 (by decide +kernel) rfl
theorem zce_X2_readTerm : zCe yX2_readTerm cX2_readTerm 3 none 1 := ⟨zin1 (List.mem_of_getElem? (i := 234) rfl) rfl, zini_X2, ⟨by decide +kernel, by decide +kernel⟩, by decide +kernel, by decide⟩
theorem zi_X2_readTerm : Cond.instanceMethod yX2_readTerm ∈ zW := zin1 (List.mem_of_getElem? (i := 233) (by decide +kernel)) rfl
theorem zs_X2_readTerm : Cond.selects yX2_readTerm.cls yX2_readTerm yX2_readTerm ∈ zW := zinp 15 (by decide +kernel) rfl
theorem zce_X0_ofName : zCe yX0_ofName cX0_ofName 1 (some .int) 1 := ⟨zin2 (List.mem_of_getElem? (i := 1) rfl) rfl, zini_X0, ⟨by decide +kernel, by decide +kernel⟩, by decide +kernel, by decide⟩
theorem zt_X0_ofName : Cond.static yX0_ofName ∈ zW := zin2 (List.mem_of_getElem? (i := 0) (by decide +kernel)) rfl
theorem zce_X2_expect : zCe yX2_expect cX2_expect 2 none 1 := ⟨zin1 (List.mem_of_getElem? (i := 202) rfl) rfl, zini_X2, ⟨by decide +kernel, by decide +kernel⟩, by decide +kernel, by decide⟩
theorem zi_X2_expect : Cond.instanceMethod yX2_expect ∈ zW := zin1 (List.mem_of_getElem? (i := 201) (by decide +kernel)) rfl
theorem zs_X2_expect : Cond.selects yX2_expect.cls yX2_expect yX2_expect ∈ zW := zinp 7 (by decide +kernel) rfl
theorem zce_X2_readOne : zCe yX2_readOne cX2_readOne 2 none 1 := ⟨zin1 (List.mem_of_getElem? (i := 238) rfl) rfl, zini_X2, ⟨by decide +kernel, by decide +kernel⟩, by decide +kernel, by decide⟩
theorem zi_X2_readOne : Cond.instanceMethod yX2_readOne ∈ zW := zin1 (List.mem_of_getElem? (i := 237) (by decide +kernel)) rfl
theorem zs_X2_readOne : Cond.selects yX2_readOne.cls yX2_readOne yX2_readOne ∈ zW := zinp 16 (by decide +kernel) rfl
theorem zce_X5_heatOfAll : zCe yX5_heatOfAll cX5_heatOfAll 3 (some .int) 0 := ⟨zin2 (List.mem_of_getElem? (i := 126) rfl) rfl, zini_X5, ⟨by decide +kernel, by decide +kernel⟩, by decide +kernel, by decide⟩
theorem zi_X5_heatOfAll : Cond.instanceMethod yX5_heatOfAll ∈ zW := zin2 (List.mem_of_getElem? (i := 124) (by decide +kernel)) rfl
theorem zs_X5_heatOfAll : Cond.selects yX5_heatOfAll.cls yX5_heatOfAll yX5_heatOfAll ∈ zW := zin2 (List.mem_of_getElem? (i := 125) (by decide +kernel)) rfl
theorem zce_X6_count : zCe yX6_count cX6_count 2 (some .int) 1 := ⟨zin2 (List.mem_of_getElem? (i := 122) rfl) rfl, zini_X6, ⟨by decide +kernel, by decide +kernel⟩, by decide +kernel, by decide⟩
theorem zi_X6_count : Cond.instanceMethod yX6_count ∈ zW := zin2 (List.mem_of_getElem? (i := 120) (by decide +kernel)) rfl
theorem zs_X6_count : Cond.selects yX6_count.cls yX6_count yX6_count ∈ zW := zin2 (List.mem_of_getElem? (i := 121) (by decide +kernel)) rfl
theorem zce_X2_takeByte : zCe yX2_takeByte cX2_takeByte 2 none 1 := ⟨zin1 (List.mem_of_getElem? (i := 137) rfl) rfl, zini_X2, ⟨by decide +kernel, by decide +kernel⟩, by decide +kernel, by decide⟩
theorem zi_X2_takeByte : Cond.instanceMethod yX2_takeByte ∈ zW := zin1 (List.mem_of_getElem? (i := 135) (by decide +kernel)) rfl
theorem zs_X2_takeByte : Cond.selects yX2_takeByte.cls yX2_takeByte yX2_takeByte ∈ zW := zin1 (List.mem_of_getElem? (i := 136) (by decide +kernel)) rfl
theorem zce_X6_isByte : zCe yX6_isByte cX6_isByte 1 (some .boolean) 1 := ⟨zin2 (List.mem_of_getElem? (i := 134) rfl) rfl, zini_X6, ⟨by decide +kernel, by decide +kernel⟩, by decide +kernel, by decide⟩
theorem zt_X6_isByte : Cond.static yX6_isByte ∈ zW := zin2 (List.mem_of_getElem? (i := 133) (by decide +kernel)) rfl
theorem zce_X6_feed : zCe yX6_feed cX6_feed 7 (some .int) 6 := ⟨zin2 (List.mem_of_getElem? (i := 130) rfl) rfl, zini_X6, ⟨by decide +kernel, by decide +kernel⟩, by decide +kernel, by decide⟩
theorem zi_X6_feed : Cond.instanceMethod yX6_feed ∈ zW := zin2 (List.mem_of_getElem? (i := 128) (by decide +kernel)) rfl
theorem zs_X6_feed : Cond.selects yX6_feed.cls yX6_feed yX6_feed ∈ zW := zin2 (List.mem_of_getElem? (i := 129) (by decide +kernel)) rfl
theorem zce_X2_clear : zCe yX2_clear cX2_clear 1 none 0 := ⟨zin2 (List.mem_of_getElem? (i := 12) rfl) rfl, zini_X2, ⟨by decide +kernel, by decide +kernel⟩, by decide +kernel, by decide⟩
theorem zi_X2_clear : Cond.instanceMethod yX2_clear ∈ zW := zin2 (List.mem_of_getElem? (i := 10) (by decide +kernel)) rfl
theorem zs_X2_clear : Cond.selects yX2_clear.cls yX2_clear yX2_clear ∈ zW := zin2 (List.mem_of_getElem? (i := 11) (by decide +kernel)) rfl
theorem zce_X2_readText : zCe yX2_readText cX2_readText 2 (some .int) 0 := ⟨zin1 (List.mem_of_getElem? (i := 141) rfl) rfl, zini_X2, ⟨by decide +kernel, by decide +kernel⟩, by decide +kernel, by decide⟩
theorem zi_X2_readText : Cond.instanceMethod yX2_readText ∈ zW := zin1 (List.mem_of_getElem? (i := 139) (by decide +kernel)) rfl
theorem zs_X2_readText : Cond.selects yX2_readText.cls yX2_readText yX2_readText ∈ zW := zin1 (List.mem_of_getElem? (i := 140) (by decide +kernel)) rfl
theorem zce_X4_keep : zCe yX4_keep cX4_keep 2 (some .int) 1 := ⟨zin2 (List.mem_of_getElem? (i := 5) rfl) rfl, zini_X4, ⟨by decide +kernel, by decide +kernel⟩, by decide +kernel, by decide⟩
theorem zi_X4_keep : Cond.instanceMethod yX4_keep ∈ zW := zin2 (List.mem_of_getElem? (i := 3) (by decide +kernel)) rfl
theorem zs_X4_keep : Cond.selects yX4_keep.cls yX4_keep yX4_keep ∈ zW := zin2 (List.mem_of_getElem? (i := 4) (by decide +kernel)) rfl
theorem zce_X6_text : zCe yX6_text cX6_text 3 (some .int) 0 := ⟨zin2 (List.mem_of_getElem? (i := 138) rfl) rfl, zini_X6, ⟨by decide +kernel, by decide +kernel⟩, by decide +kernel, by decide⟩
theorem zi_X6_text : Cond.instanceMethod yX6_text ∈ zW := zin2 (List.mem_of_getElem? (i := 136) (by decide +kernel)) rfl
theorem zs_X6_text : Cond.selects yX6_text.cls yX6_text yX6_text ∈ zW := zin2 (List.mem_of_getElem? (i := 137) (by decide +kernel)) rfl
theorem zce_X6_force : zCe yX6_force cX6_force 3 (some .int) 1 := ⟨zin2 (List.mem_of_getElem? (i := 142) rfl) rfl, zini_X6, ⟨by decide +kernel, by decide +kernel⟩, by decide +kernel, by decide⟩
theorem zi_X6_force : Cond.instanceMethod yX6_force ∈ zW := zin2 (List.mem_of_getElem? (i := 140) (by decide +kernel)) rfl
theorem zs_X6_force : Cond.selects yX6_force.cls yX6_force yX6_force ∈ zW := zin2 (List.mem_of_getElem? (i := 141) (by decide +kernel)) rfl
theorem zce_X5_isHut : zCe yX5_isHut cX5_isHut 2 (some .boolean) 1 := ⟨zin2 (List.mem_of_getElem? (i := 150) rfl) rfl, zini_X5, ⟨by decide +kernel, by decide +kernel⟩, by decide +kernel, by decide⟩
theorem zi_X5_isHut : Cond.instanceMethod yX5_isHut ∈ zW := zin2 (List.mem_of_getElem? (i := 148) (by decide +kernel)) rfl
theorem zs_X5_isHut : Cond.selects yX5_isHut.cls yX5_isHut yX5_isHut ∈ zW := zin2 (List.mem_of_getElem? (i := 149) (by decide +kernel)) rfl
theorem zce_X0_isName : zCe yX0_isName cX0_isName 1 (some .boolean) 1 := ⟨zin2 (List.mem_of_getElem? (i := 181) rfl) rfl, zini_X0, ⟨by decide +kernel, by decide +kernel⟩, by decide +kernel, by decide⟩
theorem zt_X0_isName : Cond.static yX0_isName ∈ zW := zin2 (List.mem_of_getElem? (i := 180) (by decide +kernel)) rfl
theorem zce_X0_isOfOne : zCe yX0_isOfOne cX0_isOfOne 1 (some .boolean) 1 := ⟨zin2 (List.mem_of_getElem? (i := 175) rfl) rfl, zini_X0, ⟨by decide +kernel, by decide +kernel⟩, by decide +kernel, by decide⟩
theorem zt_X0_isOfOne : Cond.static yX0_isOfOne ∈ zW := zin2 (List.mem_of_getElem? (i := 174) (by decide +kernel)) rfl
theorem zce_X0_isOfTwo : zCe yX0_isOfTwo cX0_isOfTwo 1 (some .boolean) 1 := ⟨zin2 (List.mem_of_getElem? (i := 169) rfl) rfl, zini_X0, ⟨by decide +kernel, by decide +kernel⟩, by decide +kernel, by decide⟩
theorem zt_X0_isOfTwo : Cond.static yX0_isOfTwo ∈ zW := zin2 (List.mem_of_getElem? (i := 168) (by decide +kernel)) rfl
theorem zce_X0_ofOne : zCe yX0_ofOne cX0_ofOne 2 (some .int) 2 := ⟨zin2 (List.mem_of_getElem? (i := 178) rfl) rfl, zini_X0, ⟨by decide +kernel, by decide +kernel⟩, by decide +kernel, by decide⟩
theorem zt_X0_ofOne : Cond.static yX0_ofOne ∈ zW := zin2 (List.mem_of_getElem? (i := 177) (by decide +kernel)) rfl
theorem zce_X0_ofTwo : zCe yX0_ofTwo cX0_ofTwo 3 (some .int) 3 := ⟨zin2 (List.mem_of_getElem? (i := 172) rfl) rfl, zini_X0, ⟨by decide +kernel, by decide +kernel⟩, by decide +kernel, by decide⟩
theorem zt_X0_ofTwo : Cond.static yX0_ofTwo ∈ zW := zin2 (List.mem_of_getElem? (i := 171) (by decide +kernel)) rfl
theorem zce_X4_valueOf : zCe yX4_valueOf cX4_valueOf 10 (some .int) 3 := ⟨zin2 (List.mem_of_getElem? (i := 166) rfl) rfl, zini_X4, ⟨by decide +kernel, by decide +kernel⟩, by decide +kernel, by decide⟩
theorem zi_X4_valueOf : Cond.instanceMethod yX4_valueOf ∈ zW := zin2 (List.mem_of_getElem? (i := 164) (by decide +kernel)) rfl
theorem zs_X4_valueOf : Cond.selects yX4_valueOf.cls yX4_valueOf yX4_valueOf ∈ zW := zin2 (List.mem_of_getElem? (i := 165) (by decide +kernel)) rfl
theorem zce_X5_coalsWhere : zCe yX5_coalsWhere cX5_coalsWhere 5 (some .int) 2 := ⟨zin2 (List.mem_of_getElem? (i := 162) rfl) rfl, zini_X5, ⟨by decide +kernel, by decide +kernel⟩, by decide +kernel, by decide⟩
theorem zi_X5_coalsWhere : Cond.instanceMethod yX5_coalsWhere ∈ zW := zin2 (List.mem_of_getElem? (i := 161) (by decide +kernel)) rfl
theorem zs_X5_coalsWhere : Cond.selects yX5_coalsWhere.cls yX5_coalsWhere yX5_coalsWhere ∈ zW := zinp 17 (by decide +kernel) rfl
theorem zce_X5_owes : zCe yX5_owes cX5_owes 2 (some .int) 1 := ⟨zin2 (List.mem_of_getElem? (i := 158) rfl) rfl, zini_X5, ⟨by decide +kernel, by decide +kernel⟩, by decide +kernel, by decide⟩
theorem zi_X5_owes : Cond.instanceMethod yX5_owes ∈ zW := zin2 (List.mem_of_getElem? (i := 156) (by decide +kernel)) rfl
theorem zs_X5_owes : Cond.selects yX5_owes.cls yX5_owes yX5_owes ∈ zW := zin2 (List.mem_of_getElem? (i := 157) (by decide +kernel)) rfl
theorem zce_X5_says : zCe yX5_says cX5_says 4 (some .int) 3 := ⟨zin2 (List.mem_of_getElem? (i := 154) rfl) rfl, zini_X5, ⟨by decide +kernel, by decide +kernel⟩, by decide +kernel, by decide⟩
theorem zi_X5_says : Cond.instanceMethod yX5_says ∈ zW := zin2 (List.mem_of_getElem? (i := 152) (by decide +kernel)) rfl
theorem zs_X5_says : Cond.selects yX5_says.cls yX5_says yX5_says ∈ zW := zin2 (List.mem_of_getElem? (i := 153) (by decide +kernel)) rfl
theorem zce_X6_asks : zCe yX6_asks cX6_asks 4 (some .int) 3 := ⟨zin2 (List.mem_of_getElem? (i := 146) rfl) rfl, zini_X6, ⟨by decide +kernel, by decide +kernel⟩, by decide +kernel, by decide⟩
theorem zi_X6_asks : Cond.instanceMethod yX6_asks ∈ zW := zin2 (List.mem_of_getElem? (i := 144) (by decide +kernel)) rfl
theorem zs_X6_asks : Cond.selects yX6_asks.cls yX6_asks yX6_asks ∈ zW := zin2 (List.mem_of_getElem? (i := 145) (by decide +kernel)) rfl
theorem zce_X5_comes : zCe yX5_comes cX5_comes 3 (some .int) 2 := ⟨zin2 (List.mem_of_getElem? (i := 196) rfl) rfl, zini_X5, ⟨by decide +kernel, by decide +kernel⟩, by decide +kernel, by decide⟩
theorem zi_X5_comes : Cond.instanceMethod yX5_comes ∈ zW := zin2 (List.mem_of_getElem? (i := 194) (by decide +kernel)) rfl
theorem zs_X5_comes : Cond.selects yX5_comes.cls yX5_comes yX5_comes ∈ zW := zin2 (List.mem_of_getElem? (i := 195) (by decide +kernel)) rfl
theorem zce_X6_hut : zCe yX6_hut cX6_hut 3 (some .int) 2 := ⟨zin2 (List.mem_of_getElem? (i := 192) rfl) rfl, zini_X6, ⟨by decide +kernel, by decide +kernel⟩, by decide +kernel, by decide⟩
theorem zi_X6_hut : Cond.instanceMethod yX6_hut ∈ zW := zin2 (List.mem_of_getElem? (i := 190) (by decide +kernel)) rfl
theorem zs_X6_hut : Cond.selects yX6_hut.cls yX6_hut yX6_hut ∈ zW := zin2 (List.mem_of_getElem? (i := 191) (by decide +kernel)) rfl
theorem zce_X5_become : zCe yX5_become cX5_become 4 none 3 := ⟨zin2 (List.mem_of_getElem? (i := 213) rfl) rfl, zini_X5, ⟨by decide +kernel, by decide +kernel⟩, by decide +kernel, by decide⟩
theorem zi_X5_become : Cond.instanceMethod yX5_become ∈ zW := zin2 (List.mem_of_getElem? (i := 211) (by decide +kernel)) rfl
theorem zs_X5_become : Cond.selects yX5_become.cls yX5_become yX5_become ∈ zW := zin2 (List.mem_of_getElem? (i := 212) (by decide +kernel)) rfl
theorem zce_X5_stateOf : zCe yX5_stateOf cX5_stateOf 3 (some .int) 2 := ⟨zin2 (List.mem_of_getElem? (i := 209) rfl) rfl, zini_X5, ⟨by decide +kernel, by decide +kernel⟩, by decide +kernel, by decide⟩
theorem zi_X5_stateOf : Cond.instanceMethod yX5_stateOf ∈ zW := zin2 (List.mem_of_getElem? (i := 207) (by decide +kernel)) rfl
theorem zs_X5_stateOf : Cond.selects yX5_stateOf.cls yX5_stateOf yX5_stateOf ∈ zW := zin2 (List.mem_of_getElem? (i := 208) (by decide +kernel)) rfl
theorem zce_X6_mostOf : zCe yX6_mostOf cX6_mostOf 1 (some .int) 1 := ⟨zin2 (List.mem_of_getElem? (i := 205) rfl) rfl, zini_X6, ⟨by decide +kernel, by decide +kernel⟩, by decide +kernel, by decide⟩
theorem zt_X6_mostOf : Cond.static yX6_mostOf ∈ zW := zin2 (List.mem_of_getElem? (i := 204) (by decide +kernel)) rfl
theorem zce_X6_put : zCe yX6_put cX6_put 5 (some .int) 3 := ⟨zin2 (List.mem_of_getElem? (i := 202) rfl) rfl, zini_X6, ⟨by decide +kernel, by decide +kernel⟩, by decide +kernel, by decide⟩
theorem zi_X6_put : Cond.instanceMethod yX6_put ∈ zW := zin2 (List.mem_of_getElem? (i := 200) (by decide +kernel)) rfl
theorem zs_X6_put : Cond.selects yX6_put.cls yX6_put yX6_put ∈ zW := zin2 (List.mem_of_getElem? (i := 201) (by decide +kernel)) rfl
theorem zce_X5_isOwed : zCe yX5_isOwed cX5_isOwed 2 (some .int) 1 := ⟨zin2 (List.mem_of_getElem? (i := 222) rfl) rfl, zini_X5, ⟨by decide +kernel, by decide +kernel⟩, by decide +kernel, by decide⟩
theorem zi_X5_isOwed : Cond.instanceMethod yX5_isOwed ∈ zW := zin2 (List.mem_of_getElem? (i := 220) (by decide +kernel)) rfl
theorem zs_X5_isOwed : Cond.selects yX5_isOwed.cls yX5_isOwed yX5_isOwed ∈ zW := zin2 (List.mem_of_getElem? (i := 221) (by decide +kernel)) rfl
theorem zce_X5_loansFrom : zCe yX5_loansFrom cX5_loansFrom 4 (some .int) 1 := ⟨zin2 (List.mem_of_getElem? (i := 226) rfl) rfl, zini_X5, ⟨by decide +kernel, by decide +kernel⟩, by decide +kernel, by decide⟩
theorem zi_X5_loansFrom : Cond.instanceMethod yX5_loansFrom ∈ zW := zin2 (List.mem_of_getElem? (i := 224) (by decide +kernel)) rfl
theorem zs_X5_loansFrom : Cond.selects yX5_loansFrom.cls yX5_loansFrom yX5_loansFrom ∈ zW := zin2 (List.mem_of_getElem? (i := 225) (by decide +kernel)) rfl
theorem zce_X6_told : zCe yX6_told cX6_told 3 (some .int) 2 := ⟨zin2 (List.mem_of_getElem? (i := 217) rfl) rfl, zini_X6, ⟨by decide +kernel, by decide +kernel⟩, by decide +kernel, by decide⟩
theorem zi_X6_told : Cond.instanceMethod yX6_told ∈ zW := zin2 (List.mem_of_getElem? (i := 215) (by decide +kernel)) rfl
theorem zs_X6_told : Cond.selects yX6_told.cls yX6_told yX6_told ∈ zW := zin2 (List.mem_of_getElem? (i := 216) (by decide +kernel)) rfl
theorem zce_X5_pass : zCe yX5_pass cX5_pass 4 none 3 := ⟨zin3 (List.mem_of_getElem? (i := 1) rfl) rfl, zini_X5, ⟨by decide +kernel, by decide +kernel⟩, by decide +kernel, by decide⟩
theorem zi_X5_pass : Cond.instanceMethod yX5_pass ∈ zW := zin3 (List.mem_of_getElem? (i := 0) (by decide +kernel)) rfl
theorem zs_X5_pass : Cond.selects yX5_pass.cls yX5_pass yX5_pass ∈ zW := zinp 18 (by decide +kernel) rfl
theorem zce_X5_lends : zCe yX5_lends cX5_lends 5 (some .int) 4 := ⟨zin2 (List.mem_of_getElem? (i := 237) rfl) rfl, zini_X5, ⟨by decide +kernel, by decide +kernel⟩, by decide +kernel, by decide⟩
theorem zi_X5_lends : Cond.instanceMethod yX5_lends ∈ zW := zin2 (List.mem_of_getElem? (i := 235) (by decide +kernel)) rfl
theorem zs_X5_lends : Cond.selects yX5_lends.cls yX5_lends yX5_lends ∈ zW := zin2 (List.mem_of_getElem? (i := 236) (by decide +kernel)) rfl
theorem zce_X6_isCoalNights : zCe yX6_isCoalNights cX6_isCoalNights 2 (some .boolean) 2 := ⟨zin2 (List.mem_of_getElem? (i := 233) rfl) rfl, zini_X6, ⟨by decide +kernel, by decide +kernel⟩, by decide +kernel, by decide⟩
theorem zt_X6_isCoalNights : Cond.static yX6_isCoalNights ∈ zW := zin2 (List.mem_of_getElem? (i := 232) (by decide +kernel)) rfl
theorem zce_X6_lend : zCe yX6_lend cX6_lend 5 (some .int) 2 := ⟨zin2 (List.mem_of_getElem? (i := 230) rfl) rfl, zini_X6, ⟨by decide +kernel, by decide +kernel⟩, by decide +kernel, by decide⟩
theorem zi_X6_lend : Cond.instanceMethod yX6_lend ∈ zW := zin2 (List.mem_of_getElem? (i := 228) (by decide +kernel)) rfl
theorem zs_X6_lend : Cond.selects yX6_lend.cls yX6_lend yX6_lend ∈ zW := zin2 (List.mem_of_getElem? (i := 229) (by decide +kernel)) rfl
theorem zce_X5_isLoan : zCe yX5_isLoan cX5_isLoan 2 (some .boolean) 1 := ⟨zin3 (List.mem_of_getElem? (i := 9) rfl) rfl, zini_X5, ⟨by decide +kernel, by decide +kernel⟩, by decide +kernel, by decide⟩
theorem zi_X5_isLoan : Cond.instanceMethod yX5_isLoan ∈ zW := zin3 (List.mem_of_getElem? (i := 7) (by decide +kernel)) rfl
theorem zs_X5_isLoan : Cond.selects yX5_isLoan.cls yX5_isLoan yX5_isLoan ∈ zW := zin3 (List.mem_of_getElem? (i := 8) (by decide +kernel)) rfl
theorem zce_X6_loan : zCe yX6_loan cX6_loan 3 (some .int) 2 := ⟨zin3 (List.mem_of_getElem? (i := 5) rfl) rfl, zini_X6, ⟨by decide +kernel, by decide +kernel⟩, by decide +kernel, by decide⟩
theorem zi_X6_loan : Cond.instanceMethod yX6_loan ∈ zW := zin3 (List.mem_of_getElem? (i := 3) (by decide +kernel)) rfl
theorem zs_X6_loan : Cond.selects yX6_loan.cls yX6_loan yX6_loan ∈ zW := zin3 (List.mem_of_getElem? (i := 4) (by decide +kernel)) rfl
theorem zce_X5_canRepay : zCe yX5_canRepay cX5_canRepay 2 (some .boolean) 1 := ⟨zin3 (List.mem_of_getElem? (i := 17) rfl) rfl, zini_X5, ⟨by decide +kernel, by decide +kernel⟩, by decide +kernel, by decide⟩
theorem zi_X5_canRepay : Cond.instanceMethod yX5_canRepay ∈ zW := zin3 (List.mem_of_getElem? (i := 15) (by decide +kernel)) rfl
theorem zs_X5_canRepay : Cond.selects yX5_canRepay.cls yX5_canRepay yX5_canRepay ∈ zW := zin3 (List.mem_of_getElem? (i := 16) (by decide +kernel)) rfl
theorem zce_X5_drop : zCe yX5_drop cX5_drop 3 none 1 := ⟨zin3 (List.mem_of_getElem? (i := 25) rfl) rfl, zini_X5, ⟨by decide +kernel, by decide +kernel⟩, by decide +kernel, by decide⟩
theorem zi_X5_drop : Cond.instanceMethod yX5_drop ∈ zW := zin3 (List.mem_of_getElem? (i := 23) (by decide +kernel)) rfl
theorem zs_X5_drop : Cond.selects yX5_drop.cls yX5_drop yX5_drop ∈ zW := zin3 (List.mem_of_getElem? (i := 24) (by decide +kernel)) rfl
theorem zce_X5_payBack : zCe yX5_payBack cX5_payBack 2 none 1 := ⟨zin3 (List.mem_of_getElem? (i := 21) rfl) rfl, zini_X5, ⟨by decide +kernel, by decide +kernel⟩, by decide +kernel, by decide⟩
theorem zi_X5_payBack : Cond.instanceMethod yX5_payBack ∈ zW := zin3 (List.mem_of_getElem? (i := 19) (by decide +kernel)) rfl
theorem zs_X5_payBack : Cond.selects yX5_payBack.cls yX5_payBack yX5_payBack ∈ zW := zin3 (List.mem_of_getElem? (i := 20) (by decide +kernel)) rfl
theorem zce_X6_repay : zCe yX6_repay cX6_repay 3 (some .int) 1 := ⟨zin3 (List.mem_of_getElem? (i := 13) rfl) rfl, zini_X6, ⟨by decide +kernel, by decide +kernel⟩, by decide +kernel, by decide⟩
theorem zi_X6_repay : Cond.instanceMethod yX6_repay ∈ zW := zin3 (List.mem_of_getElem? (i := 11) (by decide +kernel)) rfl
theorem zs_X6_repay : Cond.selects yX6_repay.cls yX6_repay yX6_repay ∈ zW := zin3 (List.mem_of_getElem? (i := 12) (by decide +kernel)) rfl
theorem zce_X6_forgive : zCe yX6_forgive cX6_forgive 3 (some .int) 1 := ⟨zin3 (List.mem_of_getElem? (i := 29) rfl) rfl, zini_X6, ⟨by decide +kernel, by decide +kernel⟩, by decide +kernel, by decide⟩
theorem zi_X6_forgive : Cond.instanceMethod yX6_forgive ∈ zW := zin3 (List.mem_of_getElem? (i := 27) (by decide +kernel)) rfl
theorem zs_X6_forgive : Cond.selects yX6_forgive.cls yX6_forgive yX6_forgive ∈ zW := zin3 (List.mem_of_getElem? (i := 28) (by decide +kernel)) rfl
theorem zce_X5_endDueLoans : zCe yX5_endDueLoans cX5_endDueLoans 4 (some .int) 0 := ⟨zin3 (List.mem_of_getElem? (i := 49) rfl) rfl, zini_X5, ⟨by decide +kernel, by decide +kernel⟩, by decide +kernel, by decide⟩
theorem zi_X5_endDueLoans : Cond.instanceMethod yX5_endDueLoans ∈ zW := zin3 (List.mem_of_getElem? (i := 48) (by decide +kernel)) rfl
theorem zs_X5_endDueLoans : Cond.selects yX5_endDueLoans.cls yX5_endDueLoans yX5_endDueLoans ∈ zW := zinp 20 (by decide +kernel) rfl
theorem zce_X1_growth : zCe yX1_growth cX1_growth 4 (some .int) 4 := ⟨zin3 (List.mem_of_getElem? (i := 45) rfl) rfl, zini_X1, ⟨by decide +kernel, by decide +kernel⟩, by decide +kernel, by decide⟩
theorem zt_X1_growth : Cond.static yX1_growth ∈ zW := zin3 (List.mem_of_getElem? (i := 44) (by decide +kernel)) rfl
theorem zce_X5_grow : zCe yX5_grow cX5_grow 4 none 1 := ⟨zin3 (List.mem_of_getElem? (i := 41) rfl) rfl, zini_X5, ⟨by decide +kernel, by decide +kernel⟩, by decide +kernel, by decide⟩
theorem zi_X5_grow : Cond.instanceMethod yX5_grow ∈ zW := zin3 (List.mem_of_getElem? (i := 40) (by decide +kernel)) rfl
theorem zs_X5_grow : Cond.selects yX5_grow.cls yX5_grow yX5_grow ∈ zW := zinp 19 (by decide +kernel) rfl
theorem zce_X1_burning : zCe yX1_burning cX1_burning 4 (some .int) 4 := ⟨zin3 (List.mem_of_getElem? (i := 59) rfl) rfl, zini_X1, ⟨by decide +kernel, by decide +kernel⟩, by decide +kernel, by decide⟩
theorem zt_X1_burning : Cond.static yX1_burning ∈ zW := zin3 (List.mem_of_getElem? (i := 58) (by decide +kernel)) rfl
theorem zce_X1_cooling : zCe yX1_cooling cX1_cooling 3 (some .int) 3 := ⟨zin3 (List.mem_of_getElem? (i := 62) rfl) rfl, zini_X1, ⟨by decide +kernel, by decide +kernel⟩, by decide +kernel, by decide⟩
theorem zt_X1_cooling : Cond.static yX1_cooling ∈ zW := zin3 (List.mem_of_getElem? (i := 61) (by decide +kernel)) rfl
theorem zce_X5_warm : zCe yX5_warm cX5_warm 3 none 1 := ⟨zin3 (List.mem_of_getElem? (i := 56) rfl) rfl, zini_X5, ⟨by decide +kernel, by decide +kernel⟩, by decide +kernel, by decide⟩
theorem zi_X5_warm : Cond.instanceMethod yX5_warm ∈ zW := zin3 (List.mem_of_getElem? (i := 55) (by decide +kernel)) rfl
theorem zs_X5_warm : Cond.selects yX5_warm.cls yX5_warm yX5_warm ∈ zW := zinp 21 (by decide +kernel) rfl
theorem zce_X5_passNight : zCe yX5_passNight cX5_passNight 3 (some .int) 0 := ⟨zin3 (List.mem_of_getElem? (i := 37) rfl) rfl, zini_X5, ⟨by decide +kernel, by decide +kernel⟩, by decide +kernel, by decide⟩
theorem zi_X5_passNight : Cond.instanceMethod yX5_passNight ∈ zW := zin3 (List.mem_of_getElem? (i := 35) (by decide +kernel)) rfl
theorem zs_X5_passNight : Cond.selects yX5_passNight.cls yX5_passNight yX5_passNight ∈ zW := zin3 (List.mem_of_getElem? (i := 36) (by decide +kernel)) rfl
theorem zce_X6_night : zCe yX6_night cX6_night 1 (some .int) 0 := ⟨zin3 (List.mem_of_getElem? (i := 33) rfl) rfl, zini_X6, ⟨by decide +kernel, by decide +kernel⟩, by decide +kernel, by decide⟩
theorem zi_X6_night : Cond.instanceMethod yX6_night ∈ zW := zin3 (List.mem_of_getElem? (i := 31) (by decide +kernel)) rfl
theorem zs_X6_night : Cond.selects yX6_night.cls yX6_night yX6_night ∈ zW := zin3 (List.mem_of_getElem? (i := 32) (by decide +kernel)) rfl
theorem zce_X5_passNights : zCe yX5_passNights cX5_passNights 4 (some .int) 1 := ⟨zin3 (List.mem_of_getElem? (i := 79) rfl) rfl, zini_X5, ⟨by decide +kernel, by decide +kernel⟩, by decide +kernel, by decide⟩
theorem zi_X5_passNights : Cond.instanceMethod yX5_passNights ∈ zW := zin3 (List.mem_of_getElem? (i := 77) (by decide +kernel)) rfl
theorem zs_X5_passNights : Cond.selects yX5_passNights.cls yX5_passNights yX5_passNights ∈ zW := zin3 (List.mem_of_getElem? (i := 78) (by decide +kernel)) rfl
theorem zce_X5_becomeAs : zCe yX5_becomeAs cX5_becomeAs 2 none 1 := ⟨zin3 (List.mem_of_getElem? (i := 74) rfl) rfl, zini_X5, ⟨by decide +kernel, by decide +kernel⟩, by decide +kernel, by decide⟩
theorem zi_X5_becomeAs : Cond.instanceMethod yX5_becomeAs ∈ zW := zin3 (List.mem_of_getElem? (i := 72) (by decide +kernel)) rfl
theorem zs_X5_becomeAs : Cond.selects yX5_becomeAs.cls yX5_becomeAs yX5_becomeAs ∈ zW := zin3 (List.mem_of_getElem? (i := 73) (by decide +kernel)) rfl
theorem zce_X6_think : zCe yX6_think cX6_think 1 (some (.object "CoalIsLent$World")) 0 := ⟨zin3 (List.mem_of_getElem? (i := 70) rfl) rfl, zini_X6, ⟨by decide +kernel, by decide +kernel⟩, by decide +kernel, by decide⟩
theorem zi_X6_think : Cond.instanceMethod yX6_think ∈ zW := zin3 (List.mem_of_getElem? (i := 69) (by decide +kernel)) rfl
theorem zs_X6_think : Cond.selects yX6_think.cls yX6_think yX6_think ∈ zW := zinp 22 (by decide +kernel) rfl
theorem zce_X6_run : zCe yX6_run cX6_run 6 (some .int) 2 := ⟨zin3 (List.mem_of_getElem? (i := 66) rfl) rfl, zini_X6, ⟨by decide +kernel, by decide +kernel⟩, by decide +kernel, by decide⟩
theorem zi_X6_run : Cond.instanceMethod yX6_run ∈ zW := zin3 (List.mem_of_getElem? (i := 64) (by decide +kernel)) rfl
theorem zs_X6_run : Cond.selects yX6_run.cls yX6_run yX6_run ∈ zW := zin3 (List.mem_of_getElem? (i := 65) (by decide +kernel)) rfl
theorem zce_X6_has : zCe yX6_has cX6_has 2 (some .boolean) 2 := ⟨zin3 (List.mem_of_getElem? (i := 91) rfl) rfl, zini_X6, ⟨by decide +kernel, by decide +kernel⟩, by decide +kernel, by decide⟩
theorem zt_X6_has : Cond.static yX6_has ∈ zW := zin3 (List.mem_of_getElem? (i := 90) (by decide +kernel)) rfl
theorem zce_X6_nightsToFailing : zCe yX6_nightsToFailing cX6_nightsToFailing 4 (some .int) 1 := ⟨zin3 (List.mem_of_getElem? (i := 88) rfl) rfl, zini_X6, ⟨by decide +kernel, by decide +kernel⟩, by decide +kernel, by decide⟩
theorem zi_X6_nightsToFailing : Cond.instanceMethod yX6_nightsToFailing ∈ zW := zin3 (List.mem_of_getElem? (i := 87) (by decide +kernel)) rfl
theorem zs_X6_nightsToFailing : Cond.selects yX6_nightsToFailing.cls yX6_nightsToFailing yX6_nightsToFailing ∈ zW := zinp 23 (by decide +kernel) rfl
theorem zce_X6_nightsToNoHeat : zCe yX6_nightsToNoHeat cX6_nightsToNoHeat 4 (some .int) 1 := ⟨zin3 (List.mem_of_getElem? (i := 95) rfl) rfl, zini_X6, ⟨by decide +kernel, by decide +kernel⟩, by decide +kernel, by decide⟩
theorem zi_X6_nightsToNoHeat : Cond.instanceMethod yX6_nightsToNoHeat ∈ zW := zin3 (List.mem_of_getElem? (i := 94) (by decide +kernel)) rfl
theorem zs_X6_nightsToNoHeat : Cond.selects yX6_nightsToNoHeat.cls yX6_nightsToNoHeat yX6_nightsToNoHeat ∈ zW := zinp 24 (by decide +kernel) rfl
theorem zce_X6_lasts : zCe yX6_lasts cX6_lasts 3 (some .int) 2 := ⟨zin3 (List.mem_of_getElem? (i := 84) rfl) rfl, zini_X6, ⟨by decide +kernel, by decide +kernel⟩, by decide +kernel, by decide⟩
theorem zi_X6_lasts : Cond.instanceMethod yX6_lasts ∈ zW := zin3 (List.mem_of_getElem? (i := 82) (by decide +kernel)) rfl
theorem zs_X6_lasts : Cond.selects yX6_lasts.cls yX6_lasts yX6_lasts ∈ zW := zin3 (List.mem_of_getElem? (i := 83) (by decide +kernel)) rfl
theorem zce_X6_net : zCe yX6_net cX6_net 2 (some .int) 1 := ⟨zin3 (List.mem_of_getElem? (i := 99) rfl) rfl, zini_X6, ⟨by decide +kernel, by decide +kernel⟩, by decide +kernel, by decide⟩
theorem zi_X6_net : Cond.instanceMethod yX6_net ∈ zW := zin3 (List.mem_of_getElem? (i := 97) (by decide +kernel)) rfl
theorem zs_X6_net : Cond.selects yX6_net.cls yX6_net yX6_net ∈ zW := zin3 (List.mem_of_getElem? (i := 98) (by decide +kernel)) rfl
theorem zce_X6_payOnce : zCe yX6_payOnce cX6_payOnce 4 (some .int) 0 := ⟨zin3 (List.mem_of_getElem? (i := 109) rfl) rfl, zini_X6, ⟨by decide +kernel, by decide +kernel⟩, by decide +kernel, by decide⟩
theorem zi_X6_payOnce : Cond.instanceMethod yX6_payOnce ∈ zW := zin3 (List.mem_of_getElem? (i := 108) (by decide +kernel)) rfl
theorem zs_X6_payOnce : Cond.selects yX6_payOnce.cls yX6_payOnce yX6_payOnce ∈ zW := zinp 25 (by decide +kernel) rfl
theorem zce_X6_settle : zCe yX6_settle cX6_settle 6 (some .int) 1 := ⟨zin3 (List.mem_of_getElem? (i := 104) rfl) rfl, zini_X6, ⟨by decide +kernel, by decide +kernel⟩, by decide +kernel, by decide⟩
theorem zi_X6_settle : Cond.instanceMethod yX6_settle ∈ zW := zin3 (List.mem_of_getElem? (i := 102) (by decide +kernel)) rfl
theorem zs_X6_settle : Cond.selects yX6_settle.cls yX6_settle yX6_settle ∈ zW := zin3 (List.mem_of_getElem? (i := 103) (by decide +kernel)) rfl
theorem zce_X5_sourceOf : zCe yX5_sourceOf cX5_sourceOf 5 (some .int) 1 := ⟨zin3 (List.mem_of_getElem? (i := 118) rfl) rfl, zini_X5, ⟨by decide +kernel, by decide +kernel⟩, by decide +kernel, by decide⟩
theorem zi_X5_sourceOf : Cond.instanceMethod yX5_sourceOf ∈ zW := zin3 (List.mem_of_getElem? (i := 116) (by decide +kernel)) rfl
theorem zs_X5_sourceOf : Cond.selects yX5_sourceOf.cls yX5_sourceOf yX5_sourceOf ∈ zW := zin3 (List.mem_of_getElem? (i := 117) (by decide +kernel)) rfl
theorem zce_X6_source : zCe yX6_source cX6_source 2 (some .int) 1 := ⟨zin3 (List.mem_of_getElem? (i := 114) rfl) rfl, zini_X6, ⟨by decide +kernel, by decide +kernel⟩, by decide +kernel, by decide⟩
theorem zi_X6_source : Cond.instanceMethod yX6_source ∈ zW := zin3 (List.mem_of_getElem? (i := 112) (by decide +kernel)) rfl
theorem zs_X6_source : Cond.selects yX6_source.cls yX6_source yX6_source ∈ zW := zin3 (List.mem_of_getElem? (i := 113) (by decide +kernel)) rfl
theorem zce_X6_rings : zCe yX6_rings cX6_rings 6 (some .int) 1 := ⟨zin3 (List.mem_of_getElem? (i := 123) rfl) rfl, zini_X6, ⟨by decide +kernel, by decide +kernel⟩, by decide +kernel, by decide⟩
theorem zi_X6_rings : Cond.instanceMethod yX6_rings ∈ zW := zin3 (List.mem_of_getElem? (i := 121) (by decide +kernel)) rfl
theorem zs_X6_rings : Cond.selects yX6_rings.cls yX6_rings yX6_rings ∈ zW := zin3 (List.mem_of_getElem? (i := 122) (by decide +kernel)) rfl
theorem zce_X6_heatIfLent : zCe yX6_heatIfLent cX6_heatIfLent 6 (some .int) 3 := ⟨zin3 (List.mem_of_getElem? (i := 131) rfl) rfl, zini_X6, ⟨by decide +kernel, by decide +kernel⟩, by decide +kernel, by decide⟩
theorem zi_X6_heatIfLent : Cond.instanceMethod yX6_heatIfLent ∈ zW := zin3 (List.mem_of_getElem? (i := 130) (by decide +kernel)) rfl
theorem zs_X6_heatIfLent : Cond.selects yX6_heatIfLent.cls yX6_heatIfLent yX6_heatIfLent ∈ zW := zinp 26 (by decide +kernel) rfl
theorem zce_X6_ask : zCe yX6_ask cX6_ask 8 (some .int) 3 := ⟨zin3 (List.mem_of_getElem? (i := 127) rfl) rfl, zini_X6, ⟨by decide +kernel, by decide +kernel⟩, by decide +kernel, by decide⟩
theorem zi_X6_ask : Cond.instanceMethod yX6_ask ∈ zW := zin3 (List.mem_of_getElem? (i := 125) (by decide +kernel)) rfl
theorem zs_X6_ask : Cond.selects yX6_ask.cls yX6_ask yX6_ask ∈ zW := zin3 (List.mem_of_getElem? (i := 126) (by decide +kernel)) rfl
theorem zce_X5_failedIn : zCe yX5_failedIn cX5_failedIn 4 (some .int) 1 := ⟨zin3 (List.mem_of_getElem? (i := 139) rfl) rfl, zini_X5, ⟨by decide +kernel, by decide +kernel⟩, by decide +kernel, by decide⟩
theorem zi_X5_failedIn : Cond.instanceMethod yX5_failedIn ∈ zW := zin3 (List.mem_of_getElem? (i := 137) (by decide +kernel)) rfl
theorem zs_X5_failedIn : Cond.selects yX5_failedIn.cls yX5_failedIn yX5_failedIn ∈ zW := zin3 (List.mem_of_getElem? (i := 138) (by decide +kernel)) rfl
theorem zce_X6_needs : zCe yX6_needs cX6_needs 5 (some .int) 2 := ⟨zin3 (List.mem_of_getElem? (i := 135) rfl) rfl, zini_X6, ⟨by decide +kernel, by decide +kernel⟩, by decide +kernel, by decide⟩
theorem zi_X6_needs : Cond.instanceMethod yX6_needs ∈ zW := zin3 (List.mem_of_getElem? (i := 133) (by decide +kernel)) rfl
theorem zs_X6_needs : Cond.selects yX6_needs.cls yX6_needs yX6_needs ∈ zW := zin3 (List.mem_of_getElem? (i := 134) (by decide +kernel)) rfl
theorem zce_J6_bitCount_0f7a4 : zCe yJ6_bitCount_0f7a4 cJ6_bitCount_0f7a4 1 (some .int) 1 := ⟨zin3 (List.mem_of_getElem? (i := 146) rfl) rfl, zini_J6, ⟨by decide +kernel, by decide +kernel⟩, by decide +kernel, by decide⟩
theorem zt_J6_bitCount_0f7a4 : Cond.static yJ6_bitCount_0f7a4 ∈ zW := zin3 (List.mem_of_getElem? (i := 145) (by decide +kernel)) rfl
theorem zce_X6_mercy : zCe yX6_mercy cX6_mercy 8 (some .int) 2 := ⟨zin3 (List.mem_of_getElem? (i := 143) rfl) rfl, zini_X6, ⟨by decide +kernel, by decide +kernel⟩, by decide +kernel, by decide⟩
theorem zi_X6_mercy : Cond.instanceMethod yX6_mercy ∈ zW := zin3 (List.mem_of_getElem? (i := 141) (by decide +kernel)) rfl
theorem zs_X6_mercy : Cond.selects yX6_mercy.cls yX6_mercy yX6_mercy ∈ zW := zin3 (List.mem_of_getElem? (i := 142) (by decide +kernel)) rfl
theorem zce_X6_heatOfOthersWithout : zCe yX6_heatOfOthersWithout cX6_heatOfOthersWithout 4 (some .int) 2 := ⟨zin3 (List.mem_of_getElem? (i := 157) rfl) rfl, zini_X6, ⟨by decide +kernel, by decide +kernel⟩, by decide +kernel, by decide⟩
theorem zi_X6_heatOfOthersWithout : Cond.instanceMethod yX6_heatOfOthersWithout ∈ zW := zin3 (List.mem_of_getElem? (i := 156) (by decide +kernel)) rfl
theorem zs_X6_heatOfOthersWithout : Cond.selects yX6_heatOfOthersWithout.cls yX6_heatOfOthersWithout yX6_heatOfOthersWithout ∈ zW := zinp 27 (by decide +kernel) rfl
theorem zce_X6_worst : zCe yX6_worst cX6_worst 7 (some .int) 2 := ⟨zin3 (List.mem_of_getElem? (i := 153) rfl) rfl, zini_X6, ⟨by decide +kernel, by decide +kernel⟩, by decide +kernel, by decide⟩
theorem zi_X6_worst : Cond.instanceMethod yX6_worst ∈ zW := zin3 (List.mem_of_getElem? (i := 151) (by decide +kernel)) rfl
theorem zs_X6_worst : Cond.selects yX6_worst.cls yX6_worst yX6_worst ∈ zW := zin3 (List.mem_of_getElem? (i := 152) (by decide +kernel)) rfl
theorem zce_X3_at : zCe yX3_at cX3_at 3 (some .int) 2 := ⟨zin3 (List.mem_of_getElem? (i := 189) rfl) rfl, zini_X3, ⟨by decide +kernel, by decide +kernel⟩, by decide +kernel, by decide⟩
theorem zi_X3_at : Cond.instanceMethod yX3_at ∈ zW := zin3 (List.mem_of_getElem? (i := 187) (by decide +kernel)) rfl
theorem zs_X3_at : Cond.selects yX3_at.cls yX3_at yX3_at ∈ zW := zin3 (List.mem_of_getElem? (i := 188) (by decide +kernel)) rfl
theorem zce_X3_sizeOf : zCe yX3_sizeOf cX3_sizeOf 2 (some .int) 1 := ⟨zin3 (List.mem_of_getElem? (i := 181) rfl) rfl, zini_X3, ⟨by decide +kernel, by decide +kernel⟩, by decide +kernel, by decide⟩
theorem zi_X3_sizeOf : Cond.instanceMethod yX3_sizeOf ∈ zW := zin3 (List.mem_of_getElem? (i := 179) (by decide +kernel)) rfl
theorem zs_X3_sizeOf : Cond.selects yX3_sizeOf.cls yX3_sizeOf yX3_sizeOf ∈ zW := zin3 (List.mem_of_getElem? (i := 180) (by decide +kernel)) rfl
theorem zce_X6_firstOtherwise : zCe yX6_firstOtherwise cX6_firstOtherwise 6 (some .int) 3 := ⟨zin3 (List.mem_of_getElem? (i := 185) rfl) rfl, zini_X6, ⟨by decide +kernel, by decide +kernel⟩, by decide +kernel, by decide⟩
theorem zi_X6_firstOtherwise : Cond.instanceMethod yX6_firstOtherwise ∈ zW := zin3 (List.mem_of_getElem? (i := 184) (by decide +kernel)) rfl
theorem zs_X6_firstOtherwise : Cond.selects yX6_firstOtherwise.cls yX6_firstOtherwise yX6_firstOtherwise ∈ zW := zinp 30 (by decide +kernel) rfl
theorem zce_X3_isMissing : zCe yX3_isMissing cX3_isMissing 2 (some .boolean) 1 := ⟨zin3 (List.mem_of_getElem? (i := 177) rfl) rfl, zini_X3, ⟨by decide +kernel, by decide +kernel⟩, by decide +kernel, by decide⟩
theorem zi_X3_isMissing : Cond.instanceMethod yX3_isMissing ∈ zW := zin3 (List.mem_of_getElem? (i := 175) (by decide +kernel)) rfl
theorem zs_X3_isMissing : Cond.selects yX3_isMissing.cls yX3_isMissing yX3_isMissing ∈ zW := zin3 (List.mem_of_getElem? (i := 176) (by decide +kernel)) rfl
theorem zce_X3_isSheet : zCe yX3_isSheet cX3_isSheet 2 (some .boolean) 1 := ⟨zin3 (List.mem_of_getElem? (i := 173) rfl) rfl, zini_X3, ⟨by decide +kernel, by decide +kernel⟩, by decide +kernel, by decide⟩
theorem zi_X3_isSheet : Cond.instanceMethod yX3_isSheet ∈ zW := zin3 (List.mem_of_getElem? (i := 171) (by decide +kernel)) rfl
theorem zs_X3_isSheet : Cond.selects yX3_isSheet.cls yX3_isSheet yX3_isSheet ∈ zW := zin3 (List.mem_of_getElem? (i := 172) (by decide +kernel)) rfl
theorem zce_X6_toldRefusal : zCe yX6_toldRefusal cX6_toldRefusal 2 (some .int) 1 := ⟨zin3 (List.mem_of_getElem? (i := 169) rfl) rfl, zini_X6, ⟨by decide +kernel, by decide +kernel⟩, by decide +kernel, by decide⟩
theorem zi_X6_toldRefusal : Cond.instanceMethod yX6_toldRefusal ∈ zW := zin3 (List.mem_of_getElem? (i := 168) (by decide +kernel)) rfl
theorem zs_X6_toldRefusal : Cond.selects yX6_toldRefusal.cls yX6_toldRefusal yX6_toldRefusal ∈ zW := zinp 29 (by decide +kernel) rfl
theorem zce_X6_judgeRefusal : zCe yX6_judgeRefusal cX6_judgeRefusal 4 (some .int) 2 := ⟨zin3 (List.mem_of_getElem? (i := 165) rfl) rfl, zini_X6, ⟨by decide +kernel, by decide +kernel⟩, by decide +kernel, by decide⟩
theorem zi_X6_judgeRefusal : Cond.instanceMethod yX6_judgeRefusal ∈ zW := zin3 (List.mem_of_getElem? (i := 164) (by decide +kernel)) rfl
theorem zs_X6_judgeRefusal : Cond.selects yX6_judgeRefusal.cls yX6_judgeRefusal yX6_judgeRefusal ∈ zW := zinp 28 (by decide +kernel) rfl
theorem zce_X6_judge : zCe yX6_judge cX6_judge 4 (some .int) 2 := ⟨zin3 (List.mem_of_getElem? (i := 161) rfl) rfl, zini_X6, ⟨by decide +kernel, by decide +kernel⟩, by decide +kernel, by decide⟩
theorem zi_X6_judge : Cond.instanceMethod yX6_judge ∈ zW := zin3 (List.mem_of_getElem? (i := 159) (by decide +kernel)) rfl
theorem zs_X6_judge : Cond.selects yX6_judge.cls yX6_judge yX6_judge ∈ zW := zin3 (List.mem_of_getElem? (i := 160) (by decide +kernel)) rfl
theorem zce_X6_isTold : zCe yX6_isTold cX6_isTold 4 (some .boolean) 3 := ⟨zin3 (List.mem_of_getElem? (i := 197) rfl) rfl, zini_X6, ⟨by decide +kernel, by decide +kernel⟩, by decide +kernel, by decide⟩
theorem zi_X6_isTold : Cond.instanceMethod yX6_isTold ∈ zW := zin3 (List.mem_of_getElem? (i := 196) (by decide +kernel)) rfl
theorem zs_X6_isTold : Cond.selects yX6_isTold.cls yX6_isTold yX6_isTold ∈ zW := zinp 31 (by decide +kernel) rfl
theorem zce_X6_kinds : zCe yX6_kinds cX6_kinds 8 (some .int) 3 := ⟨zin3 (List.mem_of_getElem? (i := 193) rfl) rfl, zini_X6, ⟨by decide +kernel, by decide +kernel⟩, by decide +kernel, by decide⟩
theorem zi_X6_kinds : Cond.instanceMethod yX6_kinds ∈ zW := zin3 (List.mem_of_getElem? (i := 191) (by decide +kernel)) rfl
theorem zs_X6_kinds : Cond.selects yX6_kinds.cls yX6_kinds yX6_kinds ∈ zW := zin3 (List.mem_of_getElem? (i := 192) (by decide +kernel)) rfl
theorem zce_X6_states : zCe yX6_states cX6_states 10 (some .int) 4 := ⟨zin3 (List.mem_of_getElem? (i := 201) rfl) rfl, zini_X6, ⟨by decide +kernel, by decide +kernel⟩, by decide +kernel, by decide⟩
theorem zi_X6_states : Cond.instanceMethod yX6_states ∈ zW := zin3 (List.mem_of_getElem? (i := 199) (by decide +kernel)) rfl
theorem zs_X6_states : Cond.selects yX6_states.cls yX6_states yX6_states ∈ zW := zin3 (List.mem_of_getElem? (i := 200) (by decide +kernel)) rfl
theorem zce_X6_whose : zCe yX6_whose cX6_whose 5 (some .int) 1 := ⟨zin3 (List.mem_of_getElem? (i := 205) rfl) rfl, zini_X6, ⟨by decide +kernel, by decide +kernel⟩, by decide +kernel, by decide⟩
theorem zi_X6_whose : Cond.instanceMethod yX6_whose ∈ zW := zin3 (List.mem_of_getElem? (i := 203) (by decide +kernel)) rfl
theorem zs_X6_whose : Cond.selects yX6_whose.cls yX6_whose yX6_whose ∈ zW := zin3 (List.mem_of_getElem? (i := 204) (by decide +kernel)) rfl
theorem zce_X6_laws : zCe yX6_laws cX6_laws 7 (some .int) 2 := ⟨zin3 (List.mem_of_getElem? (i := 209) rfl) rfl, zini_X6, ⟨by decide +kernel, by decide +kernel⟩, by decide +kernel, by decide⟩
theorem zi_X6_laws : Cond.instanceMethod yX6_laws ∈ zW := zin3 (List.mem_of_getElem? (i := 207) (by decide +kernel)) rfl
theorem zs_X6_laws : Cond.selects yX6_laws.cls yX6_laws yX6_laws ∈ zW := zin3 (List.mem_of_getElem? (i := 208) (by decide +kernel)) rfl
theorem zce_X3_renew : zCe yX3_renew cX3_renew 5 none 3 := ⟨zin3 (List.mem_of_getElem? (i := 217) rfl) rfl, zini_X3, ⟨by decide +kernel, by decide +kernel⟩, by decide +kernel, by decide⟩
theorem zi_X3_renew : Cond.instanceMethod yX3_renew ∈ zW := zin3 (List.mem_of_getElem? (i := 215) (by decide +kernel)) rfl
theorem zs_X3_renew : Cond.selects yX3_renew.cls yX3_renew yX3_renew ∈ zW := zin3 (List.mem_of_getElem? (i := 216) (by decide +kernel)) rfl
theorem zce_X3_write : zCe yX3_write cX3_write 5 none 3 := ⟨zin3 (List.mem_of_getElem? (i := 221) rfl) rfl, zini_X3, ⟨by decide +kernel, by decide +kernel⟩, by decide +kernel, by decide⟩
theorem zi_X3_write : Cond.instanceMethod yX3_write ∈ zW := zin3 (List.mem_of_getElem? (i := 219) (by decide +kernel)) rfl
theorem zs_X3_write : Cond.selects yX3_write.cls yX3_write yX3_write ∈ zW := zin3 (List.mem_of_getElem? (i := 220) (by decide +kernel)) rfl
theorem zce_X6_film : zCe yX6_film cX6_film 6 (some .int) 3 := ⟨zin3 (List.mem_of_getElem? (i := 213) rfl) rfl, zini_X6, ⟨by decide +kernel, by decide +kernel⟩, by decide +kernel, by decide⟩
theorem zi_X6_film : Cond.instanceMethod yX6_film ∈ zW := zin3 (List.mem_of_getElem? (i := 211) (by decide +kernel)) rfl
theorem zs_X6_film : Cond.selects yX6_film.cls yX6_film yX6_film ∈ zW := zin3 (List.mem_of_getElem? (i := 212) (by decide +kernel)) rfl
theorem zce_X5_passSnow : zCe yX5_passSnow cX5_passSnow 8 (some .int) 2 := ⟨zin3 (List.mem_of_getElem? (i := 233) rfl) rfl, zini_X5, ⟨by decide +kernel, by decide +kernel⟩, by decide +kernel, by decide⟩
theorem zi_X5_passSnow : Cond.instanceMethod yX5_passSnow ∈ zW := zin3 (List.mem_of_getElem? (i := 231) (by decide +kernel)) rfl
theorem zs_X5_passSnow : Cond.selects yX5_passSnow.cls yX5_passSnow yX5_passSnow ∈ zW := zin3 (List.mem_of_getElem? (i := 232) (by decide +kernel)) rfl
theorem zce_X6_isSnow : zCe yX6_isSnow cX6_isSnow 2 (some .boolean) 2 := ⟨zin3 (List.mem_of_getElem? (i := 228) rfl) rfl, zini_X6, ⟨by decide +kernel, by decide +kernel⟩, by decide +kernel, by decide⟩
theorem zt_X6_isSnow : Cond.static yX6_isSnow ∈ zW := zin3 (List.mem_of_getElem? (i := 227) (by decide +kernel)) rfl
theorem zce_X6_drawn : zCe yX6_drawn cX6_drawn 6 (some .int) 3 := ⟨zin3 (List.mem_of_getElem? (i := 225) rfl) rfl, zini_X6, ⟨by decide +kernel, by decide +kernel⟩, by decide +kernel, by decide⟩
theorem zi_X6_drawn : Cond.instanceMethod yX6_drawn ∈ zW := zin3 (List.mem_of_getElem? (i := 223) (by decide +kernel)) rfl
theorem zs_X6_drawn : Cond.selects yX6_drawn.cls yX6_drawn yX6_drawn ∈ zW := zin3 (List.mem_of_getElem? (i := 224) (by decide +kernel)) rfl
theorem zce_X6_greatestShared : zCe yX6_greatestShared cX6_greatestShared 3 (some .int) 2 := ⟨zin4 (List.mem_of_getElem? (i := 3) rfl) rfl, zini_X6, ⟨by decide +kernel, by decide +kernel⟩, by decide +kernel, by decide⟩
theorem zt_X6_greatestShared : Cond.static yX6_greatestShared ∈ zW := zin4 (List.mem_of_getElem? (i := 2) (by decide +kernel)) rfl
theorem zce_X6_odds : zCe yX6_odds cX6_odds 8 (some .long) 5 := ⟨zin3 (List.mem_of_getElem? (i := 239) rfl) rfl, zini_X6, ⟨by decide +kernel, by decide +kernel⟩, by decide +kernel, by decide⟩
theorem zi_X6_odds : Cond.instanceMethod yX6_odds ∈ zW := zin3 (List.mem_of_getElem? (i := 237) (by decide +kernel)) rfl
theorem zs_X6_odds : Cond.selects yX6_odds.cls yX6_odds yX6_odds ∈ zW := zin3 (List.mem_of_getElem? (i := 238) (by decide +kernel)) rfl
theorem zce_X6_image : zCe yX6_image cX6_image 1 (some .int) 0 := ⟨zin4 (List.mem_of_getElem? (i := 7) rfl) rfl, zini_X6, ⟨by decide +kernel, by decide +kernel⟩, by decide +kernel, by decide⟩
theorem zi_X6_image : Cond.instanceMethod yX6_image ∈ zW := zin4 (List.mem_of_getElem? (i := 5) (by decide +kernel)) rfl
theorem zs_X6_image : Cond.selects yX6_image.cls yX6_image yX6_image ∈ zW := zin4 (List.mem_of_getElem? (i := 6) (by decide +kernel)) rfl
theorem zce_X6_back : zCe yX6_back cX6_back 1 (some .int) 0 := ⟨zin4 (List.mem_of_getElem? (i := 11) rfl) rfl, zini_X6, ⟨by decide +kernel, by decide +kernel⟩, by decide +kernel, by decide⟩
theorem zi_X6_back : Cond.instanceMethod yX6_back ∈ zW := zin4 (List.mem_of_getElem? (i := 9) (by decide +kernel)) rfl
theorem zs_X6_back : Cond.selects yX6_back.cls yX6_back yX6_back ∈ zW := zin4 (List.mem_of_getElem? (i := 10) (by decide +kernel)) rfl
theorem zce_X6_sheet : zCe yX6_sheet cX6_sheet 5 (some .int) 3 := ⟨zin4 (List.mem_of_getElem? (i := 15) rfl) rfl, zini_X6, ⟨by decide +kernel, by decide +kernel⟩, by decide +kernel, by decide⟩
theorem zi_X6_sheet : Cond.instanceMethod yX6_sheet ∈ zW := zin4 (List.mem_of_getElem? (i := 13) (by decide +kernel)) rfl
theorem zs_X6_sheet : Cond.selects yX6_sheet.cls yX6_sheet yX6_sheet ∈ zW := zin4 (List.mem_of_getElem? (i := 14) (by decide +kernel)) rfl
theorem zce_X3_isPlace : zCe yX3_isPlace cX3_isPlace 3 (some .boolean) 2 := ⟨zin4 (List.mem_of_getElem? (i := 23) rfl) rfl, zini_X3, ⟨by decide +kernel, by decide +kernel⟩, by decide +kernel, by decide⟩
theorem zi_X3_isPlace : Cond.instanceMethod yX3_isPlace ∈ zW := zin4 (List.mem_of_getElem? (i := 21) (by decide +kernel)) rfl
theorem zs_X3_isPlace : Cond.selects yX3_isPlace.cls yX3_isPlace yX3_isPlace ∈ zW := zin4 (List.mem_of_getElem? (i := 22) (by decide +kernel)) rfl
theorem zce_X6_cell : zCe yX6_cell cX6_cell 4 (some .int) 3 := ⟨zin4 (List.mem_of_getElem? (i := 19) rfl) rfl, zini_X6, ⟨by decide +kernel, by decide +kernel⟩, by decide +kernel, by decide⟩
theorem zi_X6_cell : Cond.instanceMethod yX6_cell ∈ zW := zin4 (List.mem_of_getElem? (i := 17) (by decide +kernel)) rfl
theorem zs_X6_cell : Cond.selects yX6_cell.cls yX6_cell yX6_cell ∈ zW := zin4 (List.mem_of_getElem? (i := 18) (by decide +kernel)) rfl
theorem zce_X3_isStretch : zCe yX3_isStretch cX3_isStretch 4 (some .boolean) 3 := ⟨zin4 (List.mem_of_getElem? (i := 35) rfl) rfl, zini_X3, ⟨by decide +kernel, by decide +kernel⟩, by decide +kernel, by decide⟩
theorem zi_X3_isStretch : Cond.instanceMethod yX3_isStretch ∈ zW := zin4 (List.mem_of_getElem? (i := 33) (by decide +kernel)) rfl
theorem zs_X3_isStretch : Cond.selects yX3_isStretch.cls yX3_isStretch yX3_isStretch ∈ zW := zin4 (List.mem_of_getElem? (i := 34) (by decide +kernel)) rfl
theorem zce_X3_move : zCe yX3_move cX3_move 6 none 5 := ⟨zin4 (List.mem_of_getElem? (i := 39) rfl) rfl, zini_X3, ⟨by decide +kernel, by decide +kernel⟩, by decide +kernel, by decide⟩
theorem zi_X3_move : Cond.instanceMethod yX3_move ∈ zW := zin4 (List.mem_of_getElem? (i := 37) (by decide +kernel)) rfl
theorem zs_X3_move : Cond.selects yX3_move.cls yX3_move yX3_move ∈ zW := zin4 (List.mem_of_getElem? (i := 38) (by decide +kernel)) rfl
theorem zce_X3_sortOf : zCe yX3_sortOf cX3_sortOf 2 (some .int) 1 := ⟨zin4 (List.mem_of_getElem? (i := 31) rfl) rfl, zini_X3, ⟨by decide +kernel, by decide +kernel⟩, by decide +kernel, by decide⟩
theorem zi_X3_sortOf : Cond.instanceMethod yX3_sortOf ∈ zW := zin4 (List.mem_of_getElem? (i := 29) (by decide +kernel)) rfl
theorem zs_X3_sortOf : Cond.selects yX3_sortOf.cls yX3_sortOf yX3_sortOf ∈ zW := zin4 (List.mem_of_getElem? (i := 30) (by decide +kernel)) rfl
theorem zce_X6_copy : zCe yX6_copy cX6_copy 6 (some .int) 5 := ⟨zin4 (List.mem_of_getElem? (i := 27) rfl) rfl, zini_X6, ⟨by decide +kernel, by decide +kernel⟩, by decide +kernel, by decide⟩
theorem zi_X6_copy : Cond.instanceMethod yX6_copy ∈ zW := zin4 (List.mem_of_getElem? (i := 25) (by decide +kernel)) rfl
theorem zs_X6_copy : Cond.selects yX6_copy.cls yX6_copy yX6_copy ∈ zW := zin4 (List.mem_of_getElem? (i := 26) (by decide +kernel)) rfl
theorem zce_X6_hutsBy : zCe yX6_hutsBy cX6_hutsBy 8 (some .int) 4 := ⟨zin4 (List.mem_of_getElem? (i := 44) rfl) rfl, zini_X6, ⟨by decide +kernel, by decide +kernel⟩, by decide +kernel, by decide⟩
theorem zi_X6_hutsBy : Cond.instanceMethod yX6_hutsBy ∈ zW := zin4 (List.mem_of_getElem? (i := 42) (by decide +kernel)) rfl
theorem zs_X6_hutsBy : Cond.selects yX6_hutsBy.cls yX6_hutsBy yX6_hutsBy ∈ zW := zin4 (List.mem_of_getElem? (i := 43) (by decide +kernel)) rfl
theorem zce_X1_isOne : zCe yX1_isOne cX1_isOne 4 (some .boolean) 2 := ⟨zin4 (List.mem_of_getElem? (i := 51) rfl) rfl, zini_X1, ⟨by decide +kernel, by decide +kernel⟩, by decide +kernel, by decide⟩
theorem zt_X1_isOne : Cond.static yX1_isOne ∈ zW := zin4 (List.mem_of_getElem? (i := 50) (by decide +kernel)) rfl
theorem zce_X6_taken : zCe yX6_taken cX6_taken 5 (some .int) 2 := ⟨zin4 (List.mem_of_getElem? (i := 48) rfl) rfl, zini_X6, ⟨by decide +kernel, by decide +kernel⟩, by decide +kernel, by decide⟩
theorem zi_X6_taken : Cond.instanceMethod yX6_taken ∈ zW := zin4 (List.mem_of_getElem? (i := 46) (by decide +kernel)) rfl
theorem zs_X6_taken : Cond.selects yX6_taken.cls yX6_taken yX6_taken ∈ zW := zin4 (List.mem_of_getElem? (i := 47) (by decide +kernel)) rfl
theorem zce_X7_in : zCe yX7_in cX7_in 3 (some .boolean) 3 := ⟨zin4 (List.mem_of_getElem? (i := 70) rfl) rfl, zini_X7, ⟨by decide +kernel, by decide +kernel⟩, by decide +kernel, by decide⟩
theorem zt_X7_in : Cond.static yX7_in ∈ zW := zin4 (List.mem_of_getElem? (i := 69) (by decide +kernel)) rfl
theorem zce_X7_within : zCe yX7_within cX7_within 3 (some .int) 3 := ⟨zin5 (List.mem_of_getElem? (i := 24) rfl) rfl, zini_X7, ⟨by decide +kernel, by decide +kernel⟩, by decide +kernel, by decide⟩
theorem zt_X7_within : Cond.static yX7_within ∈ zW := zin5 (List.mem_of_getElem? (i := 23) (by decide +kernel)) rfl
theorem zce_X7_isHut : zCe yX7_isHut cX7_isHut 2 (some .boolean) 1 := ⟨zin5 (List.mem_of_getElem? (i := 6) rfl) rfl, zini_X7, ⟨by decide +kernel, by decide +kernel⟩, by decide +kernel, by decide⟩
theorem zi_X7_isHut : Cond.instanceMethod yX7_isHut ∈ zW := zin5 (List.mem_of_getElem? (i := 5) (by decide +kernel)) rfl
theorem zs_X7_isHut : Cond.selects yX7_isHut.cls yX7_isHut yX7_isHut ∈ zW := zinp 42 (by decide +kernel) rfl
theorem zce_X7_isLoan : zCe yX7_isLoan cX7_isLoan 2 (some .boolean) 1 := ⟨zin5 (List.mem_of_getElem? (i := 72) rfl) rfl, zini_X7, ⟨by decide +kernel, by decide +kernel⟩, by decide +kernel, by decide⟩
theorem zi_X7_isLoan : Cond.instanceMethod yX7_isLoan ∈ zW := zin5 (List.mem_of_getElem? (i := 71) (by decide +kernel)) rfl
theorem zs_X7_isLoan : Cond.selects yX7_isLoan.cls yX7_isLoan yX7_isLoan ∈ zW := zinp 51 (by decide +kernel) rfl
theorem zce_X7_owedBy : zCe yX7_owedBy cX7_owedBy 4 (some .int) 1 := ⟨zin5 (List.mem_of_getElem? (i := 14) rfl) rfl, zini_X7, ⟨by decide +kernel, by decide +kernel⟩, by decide +kernel, by decide⟩
theorem zi_X7_owedBy : Cond.instanceMethod yX7_owedBy ∈ zW := zin5 (List.mem_of_getElem? (i := 13) (by decide +kernel)) rfl
theorem zs_X7_owedBy : Cond.selects yX7_owedBy.cls yX7_owedBy yX7_owedBy ∈ zW := zinp 44 (by decide +kernel) rfl
theorem zce_X7_owedTo : zCe yX7_owedTo cX7_owedTo 4 (some .int) 1 := ⟨zin5 (List.mem_of_getElem? (i := 41) rfl) rfl, zini_X7, ⟨by decide +kernel, by decide +kernel⟩, by decide +kernel, by decide⟩
theorem zi_X7_owedTo : Cond.instanceMethod yX7_owedTo ∈ zW := zin5 (List.mem_of_getElem? (i := 40) (by decide +kernel)) rfl
theorem zs_X7_owedTo : Cond.selects yX7_owedTo.cls yX7_owedTo yX7_owedTo ∈ zW := zinp 46 (by decide +kernel) rfl
theorem zce_X7_lentBy : zCe yX7_lentBy cX7_lentBy 4 (some .int) 1 := ⟨zin5 (List.mem_of_getElem? (i := 45) rfl) rfl, zini_X7, ⟨by decide +kernel, by decide +kernel⟩, by decide +kernel, by decide⟩
theorem zi_X7_lentBy : Cond.instanceMethod yX7_lentBy ∈ zW := zin5 (List.mem_of_getElem? (i := 44) (by decide +kernel)) rfl
theorem zs_X7_lentBy : Cond.selects yX7_lentBy.cls yX7_lentBy yX7_lentBy ∈ zW := zinp 47 (by decide +kernel) rfl
theorem zce_X7_heatAll : zCe yX7_heatAll cX7_heatAll 3 (some .int) 0 := ⟨zin4 (List.mem_of_getElem? (i := 226) rfl) rfl, zini_X7, ⟨by decide +kernel, by decide +kernel⟩, by decide +kernel, by decide⟩
theorem zi_X7_heatAll : Cond.instanceMethod yX7_heatAll ∈ zW := zin4 (List.mem_of_getElem? (i := 225) (by decide +kernel)) rfl
theorem zs_X7_heatAll : Cond.selects yX7_heatAll.cls yX7_heatAll yX7_heatAll ∈ zW := zinp 41 (by decide +kernel) rfl
theorem zce_X7_count : zCe yX7_count cX7_count 2 (some .int) 1 := ⟨zin4 (List.mem_of_getElem? (i := 222) rfl) rfl, zini_X7, ⟨by decide +kernel, by decide +kernel⟩, by decide +kernel, by decide⟩
theorem zi_X7_count : Cond.instanceMethod yX7_count ∈ zW := zin4 (List.mem_of_getElem? (i := 220) (by decide +kernel)) rfl
theorem zs_X7_count : Cond.selects yX7_count.cls yX7_count yX7_count ∈ zW := zin4 (List.mem_of_getElem? (i := 221) (by decide +kernel)) rfl
theorem zce_X7_isByte : zCe yX7_isByte cX7_isByte 1 (some .boolean) 1 := ⟨zin4 (List.mem_of_getElem? (i := 233) rfl) rfl, zini_X7, ⟨by decide +kernel, by decide +kernel⟩, by decide +kernel, by decide⟩
theorem zt_X7_isByte : Cond.static yX7_isByte ∈ zW := zin4 (List.mem_of_getElem? (i := 232) (by decide +kernel)) rfl
theorem zce_X7_feed : zCe yX7_feed cX7_feed 8 (some .int) 6 := ⟨zin4 (List.mem_of_getElem? (i := 230) rfl) rfl, zini_X7, ⟨by decide +kernel, by decide +kernel⟩, by decide +kernel, by decide⟩
theorem zi_X7_feed : Cond.instanceMethod yX7_feed ∈ zW := zin4 (List.mem_of_getElem? (i := 228) (by decide +kernel)) rfl
theorem zs_X7_feed : Cond.selects yX7_feed.cls yX7_feed yX7_feed ∈ zW := zin4 (List.mem_of_getElem? (i := 229) (by decide +kernel)) rfl
theorem zce_X7_wordFrom : zCe yX7_wordFrom cX7_wordFrom 6 (some .int) 2 := ⟨zin4 (List.mem_of_getElem? (i := 74) rfl) rfl, zini_X7, ⟨by decide +kernel, by decide +kernel⟩, by decide +kernel, by decide⟩
theorem zi_X7_wordFrom : Cond.instanceMethod yX7_wordFrom ∈ zW := zin4 (List.mem_of_getElem? (i := 73) (by decide +kernel)) rfl
theorem zs_X7_wordFrom : Cond.selects yX7_wordFrom.cls yX7_wordFrom yX7_wordFrom ∈ zW := zinp 33 (by decide +kernel) rfl
theorem zce_X7_next : zCe yX7_next cX7_next 3 none 0 := ⟨zin4 (List.mem_of_getElem? (i := 67) rfl) rfl, zini_X7, ⟨by decide +kernel, by decide +kernel⟩, by decide +kernel, by decide⟩
theorem zi_X7_next : Cond.instanceMethod yX7_next ∈ zW := zin4 (List.mem_of_getElem? (i := 66) (by decide +kernel)) rfl
theorem zs_X7_next : Cond.selects yX7_next.cls yX7_next yX7_next ∈ zW := zinp 32 (by decide +kernel) rfl
theorem zce_X7_rank : zCe yX7_rank cX7_rank 1 (some .int) 1 := ⟨zin4 (List.mem_of_getElem? (i := 90) rfl) rfl, zini_X7, ⟨by decide +kernel, by decide +kernel⟩, by decide +kernel, by decide⟩
theorem zt_X7_rank : Cond.static yX7_rank ∈ zW := zin4 (List.mem_of_getElem? (i := 89) (by decide +kernel)) rfl
theorem zce_X7_puts : zCe yX7_puts cX7_puts 2 none 1 := ⟨zin4 (List.mem_of_getElem? (i := 83) rfl) rfl, zini_X7, ⟨by decide +kernel, by decide +kernel⟩, by decide +kernel, by decide⟩
theorem zi_X7_puts : Cond.instanceMethod yX7_puts ∈ zW := zin4 (List.mem_of_getElem? (i := 82) (by decide +kernel)) rfl
theorem zs_X7_puts : Cond.selects yX7_puts.cls yX7_puts yX7_puts ∈ zW := zinp 35 (by decide +kernel) rfl
theorem zce_X7_unwinds : zCe yX7_unwinds cX7_unwinds 3 none 1 := ⟨zin4 (List.mem_of_getElem? (i := 87) rfl) rfl, zini_X7, ⟨by decide +kernel, by decide +kernel⟩, by decide +kernel, by decide⟩
theorem zi_X7_unwinds : Cond.instanceMethod yX7_unwinds ∈ zW := zin4 (List.mem_of_getElem? (i := 86) (by decide +kernel)) rfl
theorem zs_X7_unwinds : Cond.selects yX7_unwinds.cls yX7_unwinds yX7_unwinds ∈ zW := zinp 36 (by decide +kernel) rfl
theorem zce_X7_holds : zCe yX7_holds cX7_holds 2 none 1 := ⟨zin4 (List.mem_of_getElem? (i := 98) rfl) rfl, zini_X7, ⟨by decide +kernel, by decide +kernel⟩, by decide +kernel, by decide⟩
theorem zi_X7_holds : Cond.instanceMethod yX7_holds ∈ zW := zin4 (List.mem_of_getElem? (i := 97) (by decide +kernel)) rfl
theorem zs_X7_holds : Cond.selects yX7_holds.cls yX7_holds yX7_holds ∈ zW := zinp 38 (by decide +kernel) rfl
theorem zce_X7_opensOne : zCe yX7_opensOne cX7_opensOne 2 (some .boolean) 1 := ⟨zin4 (List.mem_of_getElem? (i := 94) rfl) rfl, zini_X7, ⟨by decide +kernel, by decide +kernel⟩, by decide +kernel, by decide⟩
theorem zi_X7_opensOne : Cond.instanceMethod yX7_opensOne ∈ zW := zin4 (List.mem_of_getElem? (i := 93) (by decide +kernel)) rfl
theorem zs_X7_opensOne : Cond.selects yX7_opensOne.cls yX7_opensOne yX7_opensOne ∈ zW := zinp 37 (by decide +kernel) rfl
theorem zce_X7_between : zCe yX7_between cX7_between 2 (some .boolean) 1 := ⟨zin4 (List.mem_of_getElem? (i := 106) rfl) rfl, zini_X7, ⟨by decide +kernel, by decide +kernel⟩, by decide +kernel, by decide⟩
theorem zi_X7_between : Cond.instanceMethod yX7_between ∈ zW := zin4 (List.mem_of_getElem? (i := 105) (by decide +kernel)) rfl
theorem zs_X7_between : Cond.selects yX7_between.cls yX7_between yX7_between ∈ zW := zinp 40 (by decide +kernel) rfl
theorem zce_X7_signOf : zCe yX7_signOf cX7_signOf 1 (some .int) 0 := ⟨zin4 (List.mem_of_getElem? (i := 102) rfl) rfl, zini_X7, ⟨by decide +kernel, by decide +kernel⟩, by decide +kernel, by decide⟩
theorem zi_X7_signOf : Cond.instanceMethod yX7_signOf ∈ zW := zin4 (List.mem_of_getElem? (i := 101) (by decide +kernel)) rfl
theorem zs_X7_signOf : Cond.selects yX7_signOf.cls yX7_signOf yX7_signOf ∈ zW := zinp 39 (by decide +kernel) rfl
theorem zce_X7_eRead : zCe yX7_eRead cX7_eRead 4 (some .boolean) 0 := ⟨zin4 (List.mem_of_getElem? (i := 78) rfl) rfl, zini_X7, ⟨by decide +kernel, by decide +kernel⟩, by decide +kernel, by decide⟩
theorem zi_X7_eRead : Cond.instanceMethod yX7_eRead ∈ zW := zin4 (List.mem_of_getElem? (i := 77) (by decide +kernel)) rfl
theorem zs_X7_eRead : Cond.selects yX7_eRead.cls yX7_eRead yX7_eRead ∈ zW := zinp 34 (by decide +kernel) rfl
theorem zce_X7_text : zCe yX7_text cX7_text 3 (some .int) 0 := ⟨zin4 (List.mem_of_getElem? (i := 63) rfl) rfl, zini_X7, ⟨by decide +kernel, by decide +kernel⟩, by decide +kernel, by decide⟩
theorem zi_X7_text : Cond.instanceMethod yX7_text ∈ zW := zin4 (List.mem_of_getElem? (i := 61) (by decide +kernel)) rfl
theorem zs_X7_text : Cond.selects yX7_text.cls yX7_text yX7_text ∈ zW := zin4 (List.mem_of_getElem? (i := 62) (by decide +kernel)) rfl
theorem zce_X7_two : zCe yX7_two cX7_two 3 (some .int) 3 := ⟨zin5 (List.mem_of_getElem? (i := 21) rfl) rfl, zini_X7, ⟨by decide +kernel, by decide +kernel⟩, by decide +kernel, by decide⟩
theorem zt_X7_two : Cond.static yX7_two ∈ zW := zin5 (List.mem_of_getElem? (i := 20) (by decide +kernel)) rfl
theorem zce_X7_says : zCe yX7_says cX7_says 5 (some .int) 1 := ⟨zin5 (List.mem_of_getElem? (i := 18) rfl) rfl, zini_X7, ⟨by decide +kernel, by decide +kernel⟩, by decide +kernel, by decide⟩
theorem zi_X7_says : Cond.instanceMethod yX7_says ∈ zW := zin5 (List.mem_of_getElem? (i := 17) (by decide +kernel)) rfl
theorem zs_X7_says : Cond.selects yX7_says.cls yX7_says yX7_says ∈ zW := zinp 45 (by decide +kernel) rfl
theorem zce_X7_force : zCe yX7_force cX7_force 3 (some .int) 1 := ⟨zin4 (List.mem_of_getElem? (i := 238) rfl) rfl, zini_X7, ⟨by decide +kernel, by decide +kernel⟩, by decide +kernel, by decide⟩
theorem zi_X7_force : Cond.instanceMethod yX7_force ∈ zW := zin4 (List.mem_of_getElem? (i := 236) (by decide +kernel)) rfl
theorem zs_X7_force : Cond.selects yX7_force.cls yX7_force yX7_force ∈ zW := zin4 (List.mem_of_getElem? (i := 237) (by decide +kernel)) rfl
theorem zce_X7_asksOf : zCe yX7_asksOf cX7_asksOf 4 (some .int) 3 := ⟨zin5 (List.mem_of_getElem? (i := 10) rfl) rfl, zini_X7, ⟨by decide +kernel, by decide +kernel⟩, by decide +kernel, by decide⟩
theorem zi_X7_asksOf : Cond.instanceMethod yX7_asksOf ∈ zW := zin5 (List.mem_of_getElem? (i := 9) (by decide +kernel)) rfl
theorem zs_X7_asksOf : Cond.selects yX7_asksOf.cls yX7_asksOf yX7_asksOf ∈ zW := zinp 43 (by decide +kernel) rfl
theorem zce_X7_asks : zCe yX7_asks cX7_asks 4 (some .int) 3 := ⟨zin5 (List.mem_of_getElem? (i := 2) rfl) rfl, zini_X7, ⟨by decide +kernel, by decide +kernel⟩, by decide +kernel, by decide⟩
theorem zi_X7_asks : Cond.instanceMethod yX7_asks ∈ zW := zin5 (List.mem_of_getElem? (i := 0) (by decide +kernel)) rfl
theorem zs_X7_asks : Cond.selects yX7_asks.cls yX7_asks yX7_asks ∈ zW := zin5 (List.mem_of_getElem? (i := 1) (by decide +kernel)) rfl
theorem zce_X7_hut : zCe yX7_hut cX7_hut 3 (some .int) 2 := ⟨zin5 (List.mem_of_getElem? (i := 28) rfl) rfl, zini_X7, ⟨by decide +kernel, by decide +kernel⟩, by decide +kernel, by decide⟩
theorem zi_X7_hut : Cond.instanceMethod yX7_hut ∈ zW := zin5 (List.mem_of_getElem? (i := 26) (by decide +kernel)) rfl
theorem zs_X7_hut : Cond.selects yX7_hut.cls yX7_hut yX7_hut ∈ zW := zin5 (List.mem_of_getElem? (i := 27) (by decide +kernel)) rfl
theorem zce_X7_put : zCe yX7_put cX7_put 5 (some .int) 3 := ⟨zin5 (List.mem_of_getElem? (i := 33) rfl) rfl, zini_X7, ⟨by decide +kernel, by decide +kernel⟩, by decide +kernel, by decide⟩
theorem zi_X7_put : Cond.instanceMethod yX7_put ∈ zW := zin5 (List.mem_of_getElem? (i := 31) (by decide +kernel)) rfl
theorem zs_X7_put : Cond.selects yX7_put.cls yX7_put yX7_put ∈ zW := zin5 (List.mem_of_getElem? (i := 32) (by decide +kernel)) rfl
theorem zce_X7_told : zCe yX7_told cX7_told 3 (some .int) 2 := ⟨zin5 (List.mem_of_getElem? (i := 37) rfl) rfl, zini_X7, ⟨by decide +kernel, by decide +kernel⟩, by decide +kernel, by decide⟩
theorem zi_X7_told : Cond.instanceMethod yX7_told ∈ zW := zin5 (List.mem_of_getElem? (i := 35) (by decide +kernel)) rfl
theorem zs_X7_told : Cond.selects yX7_told.cls yX7_told yX7_told ∈ zW := zin5 (List.mem_of_getElem? (i := 36) (by decide +kernel)) rfl
theorem zce_X7_areCoalNights : zCe yX7_areCoalNights cX7_areCoalNights 1 (some .boolean) 1 := ⟨zin5 (List.mem_of_getElem? (i := 52) rfl) rfl, zini_X7, ⟨by decide +kernel, by decide +kernel⟩, by decide +kernel, by decide⟩
theorem zt_X7_areCoalNights : Cond.static yX7_areCoalNights ∈ zW := zin5 (List.mem_of_getElem? (i := 51) (by decide +kernel)) rfl
theorem zce_X7_mayLend : zCe yX7_mayLend cX7_mayLend 3 (some .boolean) 2 := ⟨zin5 (List.mem_of_getElem? (i := 56) rfl) rfl, zini_X7, ⟨by decide +kernel, by decide +kernel⟩, by decide +kernel, by decide⟩
theorem zi_X7_mayLend : Cond.instanceMethod yX7_mayLend ∈ zW := zin5 (List.mem_of_getElem? (i := 55) (by decide +kernel)) rfl
theorem zs_X7_mayLend : Cond.selects yX7_mayLend.cls yX7_mayLend yX7_mayLend ∈ zW := zinp 48 (by decide +kernel) rfl
theorem zce_X7_moves : zCe yX7_moves cX7_moves 4 none 3 := ⟨zin5 (List.mem_of_getElem? (i := 64) rfl) rfl, zini_X7, ⟨by decide +kernel, by decide +kernel⟩, by decide +kernel, by decide⟩
theorem zi_X7_moves : Cond.instanceMethod yX7_moves ∈ zW := zin5 (List.mem_of_getElem? (i := 63) (by decide +kernel)) rfl
theorem zs_X7_moves : Cond.selects yX7_moves.cls yX7_moves yX7_moves ∈ zW := zinp 50 (by decide +kernel) rfl
theorem zce_X7_lends : zCe yX7_lends cX7_lends 4 none 3 := ⟨zin5 (List.mem_of_getElem? (i := 60) rfl) rfl, zini_X7, ⟨by decide +kernel, by decide +kernel⟩, by decide +kernel, by decide⟩
theorem zi_X7_lends : Cond.instanceMethod yX7_lends ∈ zW := zin5 (List.mem_of_getElem? (i := 59) (by decide +kernel)) rfl
theorem zs_X7_lends : Cond.selects yX7_lends.cls yX7_lends yX7_lends ∈ zW := zinp 49 (by decide +kernel) rfl
theorem zce_X7_lend : zCe yX7_lend cX7_lend 5 (some .int) 2 := ⟨zin5 (List.mem_of_getElem? (i := 49) rfl) rfl, zini_X7, ⟨by decide +kernel, by decide +kernel⟩, by decide +kernel, by decide⟩
theorem zi_X7_lend : Cond.instanceMethod yX7_lend ∈ zW := zin5 (List.mem_of_getElem? (i := 47) (by decide +kernel)) rfl
theorem zs_X7_lend : Cond.selects yX7_lend.cls yX7_lend yX7_lend ∈ zW := zin5 (List.mem_of_getElem? (i := 48) (by decide +kernel)) rfl
theorem zce_X7_loan : zCe yX7_loan cX7_loan 3 (some .int) 2 := ⟨zin5 (List.mem_of_getElem? (i := 68) rfl) rfl, zini_X7, ⟨by decide +kernel, by decide +kernel⟩, by decide +kernel, by decide⟩
theorem zi_X7_loan : Cond.instanceMethod yX7_loan ∈ zW := zin5 (List.mem_of_getElem? (i := 66) (by decide +kernel)) rfl
theorem zs_X7_loan : Cond.selects yX7_loan.cls yX7_loan yX7_loan ∈ zW := zin5 (List.mem_of_getElem? (i := 67) (by decide +kernel)) rfl
theorem zce_X7_drops : zCe yX7_drops cX7_drops 3 none 1 := ⟨zin5 (List.mem_of_getElem? (i := 80) rfl) rfl, zini_X7, ⟨by decide +kernel, by decide +kernel⟩, by decide +kernel, by decide⟩
theorem zi_X7_drops : Cond.instanceMethod yX7_drops ∈ zW := zin5 (List.mem_of_getElem? (i := 79) (by decide +kernel)) rfl
theorem zs_X7_drops : Cond.selects yX7_drops.cls yX7_drops yX7_drops ∈ zW := zinp 52 (by decide +kernel) rfl
theorem zce_X7_repay : zCe yX7_repay cX7_repay 3 (some .int) 1 := ⟨zin5 (List.mem_of_getElem? (i := 76) rfl) rfl, zini_X7, ⟨by decide +kernel, by decide +kernel⟩, by decide +kernel, by decide⟩
theorem zi_X7_repay : Cond.instanceMethod yX7_repay ∈ zW := zin5 (List.mem_of_getElem? (i := 74) (by decide +kernel)) rfl
theorem zs_X7_repay : Cond.selects yX7_repay.cls yX7_repay yX7_repay ∈ zW := zin5 (List.mem_of_getElem? (i := 75) (by decide +kernel)) rfl
theorem zce_X7_forgive : zCe yX7_forgive cX7_forgive 3 (some .int) 1 := ⟨zin5 (List.mem_of_getElem? (i := 84) rfl) rfl, zini_X7, ⟨by decide +kernel, by decide +kernel⟩, by decide +kernel, by decide⟩
theorem zi_X7_forgive : Cond.instanceMethod yX7_forgive ∈ zW := zin5 (List.mem_of_getElem? (i := 82) (by decide +kernel)) rfl
theorem zs_X7_forgive : Cond.selects yX7_forgive.cls yX7_forgive yX7_forgive ∈ zW := zin5 (List.mem_of_getElem? (i := 83) (by decide +kernel)) rfl
theorem zce_X7_growsOf : zCe yX7_growsOf cX7_growsOf 4 (some .int) 2 := ⟨zin5 (List.mem_of_getElem? (i := 96) rfl) rfl, zini_X7, ⟨by decide +kernel, by decide +kernel⟩, by decide +kernel, by decide⟩
theorem zi_X7_growsOf : Cond.instanceMethod yX7_growsOf ∈ zW := zin5 (List.mem_of_getElem? (i := 95) (by decide +kernel)) rfl
theorem zs_X7_growsOf : Cond.selects yX7_growsOf.cls yX7_growsOf yX7_growsOf ∈ zW := zinp 54 (by decide +kernel) rfl
theorem zce_X7_coolsOf : zCe yX7_coolsOf cX7_coolsOf 4 (some .int) 1 := ⟨zin5 (List.mem_of_getElem? (i := 108) rfl) rfl, zini_X7, ⟨by decide +kernel, by decide +kernel⟩, by decide +kernel, by decide⟩
theorem zi_X7_coolsOf : Cond.instanceMethod yX7_coolsOf ∈ zW := zin5 (List.mem_of_getElem? (i := 107) (by decide +kernel)) rfl
theorem zs_X7_coolsOf : Cond.selects yX7_coolsOf.cls yX7_coolsOf yX7_coolsOf ∈ zW := zinp 57 (by decide +kernel) rfl
theorem zce_X7_burnsOf : zCe yX7_burnsOf cX7_burnsOf 3 (some .int) 1 := ⟨zin5 (List.mem_of_getElem? (i := 104) rfl) rfl, zini_X7, ⟨by decide +kernel, by decide +kernel⟩, by decide +kernel, by decide⟩
theorem zi_X7_burnsOf : Cond.instanceMethod yX7_burnsOf ∈ zW := zin5 (List.mem_of_getElem? (i := 103) (by decide +kernel)) rfl
theorem zs_X7_burnsOf : Cond.selects yX7_burnsOf.cls yX7_burnsOf yX7_burnsOf ∈ zW := zinp 56 (by decide +kernel) rfl
theorem zce_X7_hearth : zCe yX7_hearth cX7_hearth 3 none 1 := ⟨zin5 (List.mem_of_getElem? (i := 100) rfl) rfl, zini_X7, ⟨by decide +kernel, by decide +kernel⟩, by decide +kernel, by decide⟩
theorem zi_X7_hearth : Cond.instanceMethod yX7_hearth ∈ zW := zin5 (List.mem_of_getElem? (i := 99) (by decide +kernel)) rfl
theorem zs_X7_hearth : Cond.selects yX7_hearth.cls yX7_hearth yX7_hearth ∈ zW := zinp 55 (by decide +kernel) rfl
theorem zce_X7_nightOf : zCe yX7_nightOf cX7_nightOf 4 (some .int) 0 := ⟨zin5 (List.mem_of_getElem? (i := 92) rfl) rfl, zini_X7, ⟨by decide +kernel, by decide +kernel⟩, by decide +kernel, by decide⟩
theorem zi_X7_nightOf : Cond.instanceMethod yX7_nightOf ∈ zW := zin5 (List.mem_of_getElem? (i := 91) (by decide +kernel)) rfl
theorem zs_X7_nightOf : Cond.selects yX7_nightOf.cls yX7_nightOf yX7_nightOf ∈ zW := zinp 53 (by decide +kernel) rfl
theorem zce_X7_night : zCe yX7_night cX7_night 1 (some .int) 0 := ⟨zin5 (List.mem_of_getElem? (i := 88) rfl) rfl, zini_X7, ⟨by decide +kernel, by decide +kernel⟩, by decide +kernel, by decide⟩
theorem zi_X7_night : Cond.instanceMethod yX7_night ∈ zW := zin5 (List.mem_of_getElem? (i := 86) (by decide +kernel)) rfl
theorem zs_X7_night : Cond.selects yX7_night.cls yX7_night yX7_night ∈ zW := zin5 (List.mem_of_getElem? (i := 87) (by decide +kernel)) rfl
theorem zce_X7_keeps : zCe yX7_keeps cX7_keeps 2 none 0 := ⟨zin5 (List.mem_of_getElem? (i := 116) rfl) rfl, zini_X7, ⟨by decide +kernel, by decide +kernel⟩, by decide +kernel, by decide⟩
theorem zi_X7_keeps : Cond.instanceMethod yX7_keeps ∈ zW := zin5 (List.mem_of_getElem? (i := 115) (by decide +kernel)) rfl
theorem zs_X7_keeps : Cond.selects yX7_keeps.cls yX7_keeps yX7_keeps ∈ zW := zinp 58 (by decide +kernel) rfl
theorem zce_X7_lays : zCe yX7_lays cX7_lays 2 none 0 := ⟨zin5 (List.mem_of_getElem? (i := 124) rfl) rfl, zini_X7, ⟨by decide +kernel, by decide +kernel⟩, by decide +kernel, by decide⟩
theorem zi_X7_lays : Cond.instanceMethod yX7_lays ∈ zW := zin5 (List.mem_of_getElem? (i := 123) (by decide +kernel)) rfl
theorem zs_X7_lays : Cond.selects yX7_lays.cls yX7_lays yX7_lays ∈ zW := zinp 60 (by decide +kernel) rfl
theorem zce_X7_goes : zCe yX7_goes cX7_goes 4 (some .int) 1 := ⟨zin5 (List.mem_of_getElem? (i := 120) rfl) rfl, zini_X7, ⟨by decide +kernel, by decide +kernel⟩, by decide +kernel, by decide⟩
theorem zi_X7_goes : Cond.instanceMethod yX7_goes ∈ zW := zin5 (List.mem_of_getElem? (i := 119) (by decide +kernel)) rfl
theorem zs_X7_goes : Cond.selects yX7_goes.cls yX7_goes yX7_goes ∈ zW := zinp 59 (by decide +kernel) rfl
theorem zce_X7_ones : zCe yX7_ones cX7_ones 3 (some .int) 1 := ⟨zin5 (List.mem_of_getElem? (i := 168) rfl) rfl, zini_X7, ⟨by decide +kernel, by decide +kernel⟩, by decide +kernel, by decide⟩
theorem zt_X7_ones : Cond.static yX7_ones ∈ zW := zin5 (List.mem_of_getElem? (i := 167) (by decide +kernel)) rfl
theorem zce_X7_run : zCe yX7_run cX7_run 5 (some .int) 2 := ⟨zin5 (List.mem_of_getElem? (i := 112) rfl) rfl, zini_X7, ⟨by decide +kernel, by decide +kernel⟩, by decide +kernel, by decide⟩
theorem zi_X7_run : Cond.instanceMethod yX7_run ∈ zW := zin5 (List.mem_of_getElem? (i := 110) (by decide +kernel)) rfl
theorem zs_X7_run : Cond.selects yX7_run.cls yX7_run yX7_run ∈ zW := zin5 (List.mem_of_getElem? (i := 111) (by decide +kernel)) rfl
theorem zce_X7_lasts : zCe yX7_lasts cX7_lasts 7 (some .int) 2 := ⟨zin5 (List.mem_of_getElem? (i := 128) rfl) rfl, zini_X7, ⟨by decide +kernel, by decide +kernel⟩, by decide +kernel, by decide⟩
theorem zi_X7_lasts : Cond.instanceMethod yX7_lasts ∈ zW := zin5 (List.mem_of_getElem? (i := 126) (by decide +kernel)) rfl
theorem zs_X7_lasts : Cond.selects yX7_lasts.cls yX7_lasts yX7_lasts ∈ zW := zin5 (List.mem_of_getElem? (i := 127) (by decide +kernel)) rfl
theorem zce_X7_net : zCe yX7_net cX7_net 2 (some .int) 1 := ⟨zin5 (List.mem_of_getElem? (i := 132) rfl) rfl, zini_X7, ⟨by decide +kernel, by decide +kernel⟩, by decide +kernel, by decide⟩
theorem zi_X7_net : Cond.instanceMethod yX7_net ∈ zW := zin5 (List.mem_of_getElem? (i := 130) (by decide +kernel)) rfl
theorem zs_X7_net : Cond.selects yX7_net.cls yX7_net yX7_net ∈ zW := zin5 (List.mem_of_getElem? (i := 131) (by decide +kernel)) rfl
theorem zce_X7_settle : zCe yX7_settle cX7_settle 8 (some .int) 1 := ⟨zin5 (List.mem_of_getElem? (i := 137) rfl) rfl, zini_X7, ⟨by decide +kernel, by decide +kernel⟩, by decide +kernel, by decide⟩
theorem zi_X7_settle : Cond.instanceMethod yX7_settle ∈ zW := zin5 (List.mem_of_getElem? (i := 135) (by decide +kernel)) rfl
theorem zs_X7_settle : Cond.selects yX7_settle.cls yX7_settle yX7_settle ∈ zW := zin5 (List.mem_of_getElem? (i := 136) (by decide +kernel)) rfl
theorem zce_X7_sourceOf : zCe yX7_sourceOf cX7_sourceOf 6 (some .int) 1 := ⟨zin5 (List.mem_of_getElem? (i := 145) rfl) rfl, zini_X7, ⟨by decide +kernel, by decide +kernel⟩, by decide +kernel, by decide⟩
theorem zi_X7_sourceOf : Cond.instanceMethod yX7_sourceOf ∈ zW := zin5 (List.mem_of_getElem? (i := 144) (by decide +kernel)) rfl
theorem zs_X7_sourceOf : Cond.selects yX7_sourceOf.cls yX7_sourceOf yX7_sourceOf ∈ zW := zinp 61 (by decide +kernel) rfl
theorem zce_X7_source : zCe yX7_source cX7_source 2 (some .int) 1 := ⟨zin5 (List.mem_of_getElem? (i := 141) rfl) rfl, zini_X7, ⟨by decide +kernel, by decide +kernel⟩, by decide +kernel, by decide⟩
theorem zi_X7_source : Cond.instanceMethod yX7_source ∈ zW := zin5 (List.mem_of_getElem? (i := 139) (by decide +kernel)) rfl
theorem zs_X7_source : Cond.selects yX7_source.cls yX7_source yX7_source ∈ zW := zin5 (List.mem_of_getElem? (i := 140) (by decide +kernel)) rfl
theorem zce_X7_rings : zCe yX7_rings cX7_rings 6 (some .int) 1 := ⟨zin5 (List.mem_of_getElem? (i := 149) rfl) rfl, zini_X7, ⟨by decide +kernel, by decide +kernel⟩, by decide +kernel, by decide⟩
theorem zi_X7_rings : Cond.instanceMethod yX7_rings ∈ zW := zin5 (List.mem_of_getElem? (i := 147) (by decide +kernel)) rfl
theorem zs_X7_rings : Cond.selects yX7_rings.cls yX7_rings yX7_rings ∈ zW := zin5 (List.mem_of_getElem? (i := 148) (by decide +kernel)) rfl
theorem zce_X7_ask : zCe yX7_ask cX7_ask 8 (some .int) 3 := ⟨zin5 (List.mem_of_getElem? (i := 153) rfl) rfl, zini_X7, ⟨by decide +kernel, by decide +kernel⟩, by decide +kernel, by decide⟩
theorem zi_X7_ask : Cond.instanceMethod yX7_ask ∈ zW := zin5 (List.mem_of_getElem? (i := 151) (by decide +kernel)) rfl
theorem zs_X7_ask : Cond.selects yX7_ask.cls yX7_ask yX7_ask ∈ zW := zin5 (List.mem_of_getElem? (i := 152) (by decide +kernel)) rfl
theorem zce_X7_needs : zCe yX7_needs cX7_needs 5 (some .int) 2 := ⟨zin5 (List.mem_of_getElem? (i := 157) rfl) rfl, zini_X7, ⟨by decide +kernel, by decide +kernel⟩, by decide +kernel, by decide⟩
theorem zi_X7_needs : Cond.instanceMethod yX7_needs ∈ zW := zin5 (List.mem_of_getElem? (i := 155) (by decide +kernel)) rfl
theorem zs_X7_needs : Cond.selects yX7_needs.cls yX7_needs yX7_needs ∈ zW := zin5 (List.mem_of_getElem? (i := 156) (by decide +kernel)) rfl
theorem zce_X7_failsBut : zCe yX7_failsBut cX7_failsBut 4 (some .int) 2 := ⟨zin5 (List.mem_of_getElem? (i := 165) rfl) rfl, zini_X7, ⟨by decide +kernel, by decide +kernel⟩, by decide +kernel, by decide⟩
theorem zi_X7_failsBut : Cond.instanceMethod yX7_failsBut ∈ zW := zin5 (List.mem_of_getElem? (i := 164) (by decide +kernel)) rfl
theorem zs_X7_failsBut : Cond.selects yX7_failsBut.cls yX7_failsBut yX7_failsBut ∈ zW := zinp 62 (by decide +kernel) rfl
theorem zce_X7_mercy : zCe yX7_mercy cX7_mercy 7 (some .int) 2 := ⟨zin5 (List.mem_of_getElem? (i := 161) rfl) rfl, zini_X7, ⟨by decide +kernel, by decide +kernel⟩, by decide +kernel, by decide⟩
theorem zi_X7_mercy : Cond.instanceMethod yX7_mercy ∈ zW := zin5 (List.mem_of_getElem? (i := 159) (by decide +kernel)) rfl
theorem zs_X7_mercy : Cond.selects yX7_mercy.cls yX7_mercy yX7_mercy ∈ zW := zin5 (List.mem_of_getElem? (i := 160) (by decide +kernel)) rfl
theorem zce_X7_worst : zCe yX7_worst cX7_worst 8 (some .int) 2 := ⟨zin5 (List.mem_of_getElem? (i := 172) rfl) rfl, zini_X7, ⟨by decide +kernel, by decide +kernel⟩, by decide +kernel, by decide⟩
theorem zi_X7_worst : Cond.instanceMethod yX7_worst ∈ zW := zin5 (List.mem_of_getElem? (i := 170) (by decide +kernel)) rfl
theorem zs_X7_worst : Cond.selects yX7_worst.cls yX7_worst yX7_worst ∈ zW := zin5 (List.mem_of_getElem? (i := 171) (by decide +kernel)) rfl
theorem zce_X7_sheetWrong : zCe yX7_sheetWrong cX7_sheetWrong 2 (some .int) 1 := ⟨zin5 (List.mem_of_getElem? (i := 184) rfl) rfl, zini_X7, ⟨by decide +kernel, by decide +kernel⟩, by decide +kernel, by decide⟩
theorem zi_X7_sheetWrong : Cond.instanceMethod yX7_sheetWrong ∈ zW := zin5 (List.mem_of_getElem? (i := 183) (by decide +kernel)) rfl
theorem zs_X7_sheetWrong : Cond.selects yX7_sheetWrong.cls yX7_sheetWrong yX7_sheetWrong ∈ zW := zinp 64 (by decide +kernel) rfl
theorem zce_X7_toldWrong : zCe yX7_toldWrong cX7_toldWrong 4 (some .int) 2 := ⟨zin5 (List.mem_of_getElem? (i := 180) rfl) rfl, zini_X7, ⟨by decide +kernel, by decide +kernel⟩, by decide +kernel, by decide⟩
theorem zi_X7_toldWrong : Cond.instanceMethod yX7_toldWrong ∈ zW := zin5 (List.mem_of_getElem? (i := 179) (by decide +kernel)) rfl
theorem zs_X7_toldWrong : Cond.selects yX7_toldWrong.cls yX7_toldWrong yX7_toldWrong ∈ zW := zinp 63 (by decide +kernel) rfl
theorem zce_X7_unlike : zCe yX7_unlike cX7_unlike 5 (some .int) 2 := ⟨zin5 (List.mem_of_getElem? (i := 188) rfl) rfl, zini_X7, ⟨by decide +kernel, by decide +kernel⟩, by decide +kernel, by decide⟩
theorem zi_X7_unlike : Cond.instanceMethod yX7_unlike ∈ zW := zin5 (List.mem_of_getElem? (i := 187) (by decide +kernel)) rfl
theorem zs_X7_unlike : Cond.selects yX7_unlike.cls yX7_unlike yX7_unlike ∈ zW := zinp 65 (by decide +kernel) rfl
theorem zce_X7_judge : zCe yX7_judge cX7_judge 4 (some .int) 2 := ⟨zin5 (List.mem_of_getElem? (i := 176) rfl) rfl, zini_X7, ⟨by decide +kernel, by decide +kernel⟩, by decide +kernel, by decide⟩
theorem zi_X7_judge : Cond.instanceMethod yX7_judge ∈ zW := zin5 (List.mem_of_getElem? (i := 174) (by decide +kernel)) rfl
theorem zs_X7_judge : Cond.selects yX7_judge.cls yX7_judge yX7_judge ∈ zW := zin5 (List.mem_of_getElem? (i := 175) (by decide +kernel)) rfl
theorem zce_X7_kinds : zCe yX7_kinds cX7_kinds 9 (some .int) 3 := ⟨zin5 (List.mem_of_getElem? (i := 192) rfl) rfl, zini_X7, ⟨by decide +kernel, by decide +kernel⟩, by decide +kernel, by decide⟩
theorem zi_X7_kinds : Cond.instanceMethod yX7_kinds ∈ zW := zin5 (List.mem_of_getElem? (i := 190) (by decide +kernel)) rfl
theorem zs_X7_kinds : Cond.selects yX7_kinds.cls yX7_kinds yX7_kinds ∈ zW := zin5 (List.mem_of_getElem? (i := 191) (by decide +kernel)) rfl
theorem zce_X7_states : zCe yX7_states cX7_states 11 (some .int) 4 := ⟨zin5 (List.mem_of_getElem? (i := 196) rfl) rfl, zini_X7, ⟨by decide +kernel, by decide +kernel⟩, by decide +kernel, by decide⟩
theorem zi_X7_states : Cond.instanceMethod yX7_states ∈ zW := zin5 (List.mem_of_getElem? (i := 194) (by decide +kernel)) rfl
theorem zs_X7_states : Cond.selects yX7_states.cls yX7_states yX7_states ∈ zW := zin5 (List.mem_of_getElem? (i := 195) (by decide +kernel)) rfl
theorem zce_X7_whose : zCe yX7_whose cX7_whose 5 (some .int) 1 := ⟨zin5 (List.mem_of_getElem? (i := 200) rfl) rfl, zini_X7, ⟨by decide +kernel, by decide +kernel⟩, by decide +kernel, by decide⟩
theorem zi_X7_whose : Cond.instanceMethod yX7_whose ∈ zW := zin5 (List.mem_of_getElem? (i := 198) (by decide +kernel)) rfl
theorem zs_X7_whose : Cond.selects yX7_whose.cls yX7_whose yX7_whose ∈ zW := zin5 (List.mem_of_getElem? (i := 199) (by decide +kernel)) rfl
theorem zce_X7_laws : zCe yX7_laws cX7_laws 7 (some .int) 2 := ⟨zin5 (List.mem_of_getElem? (i := 204) rfl) rfl, zini_X7, ⟨by decide +kernel, by decide +kernel⟩, by decide +kernel, by decide⟩
theorem zi_X7_laws : Cond.instanceMethod yX7_laws ∈ zW := zin5 (List.mem_of_getElem? (i := 202) (by decide +kernel)) rfl
theorem zs_X7_laws : Cond.selects yX7_laws.cls yX7_laws yX7_laws ∈ zW := zin5 (List.mem_of_getElem? (i := 203) (by decide +kernel)) rfl
theorem zce_X7_film : zCe yX7_film cX7_film 5 (some .int) 3 := ⟨zin5 (List.mem_of_getElem? (i := 208) rfl) rfl, zini_X7, ⟨by decide +kernel, by decide +kernel⟩, by decide +kernel, by decide⟩
theorem zi_X7_film : Cond.instanceMethod yX7_film ∈ zW := zin5 (List.mem_of_getElem? (i := 206) (by decide +kernel)) rfl
theorem zs_X7_film : Cond.selects yX7_film.cls yX7_film yX7_film ∈ zW := zin5 (List.mem_of_getElem? (i := 207) (by decide +kernel)) rfl
theorem zce_X7_snows : zCe yX7_snows cX7_snows 8 (some .int) 2 := ⟨zin5 (List.mem_of_getElem? (i := 217) rfl) rfl, zini_X7, ⟨by decide +kernel, by decide +kernel⟩, by decide +kernel, by decide⟩
theorem zi_X7_snows : Cond.instanceMethod yX7_snows ∈ zW := zin5 (List.mem_of_getElem? (i := 216) (by decide +kernel)) rfl
theorem zs_X7_snows : Cond.selects yX7_snows.cls yX7_snows yX7_snows ∈ zW := zinp 66 (by decide +kernel) rfl
theorem zce_X7_drawn : zCe yX7_drawn cX7_drawn 5 (some .int) 3 := ⟨zin5 (List.mem_of_getElem? (i := 212) rfl) rfl, zini_X7, ⟨by decide +kernel, by decide +kernel⟩, by decide +kernel, by decide⟩
theorem zi_X7_drawn : Cond.instanceMethod yX7_drawn ∈ zW := zin5 (List.mem_of_getElem? (i := 210) (by decide +kernel)) rfl
theorem zs_X7_drawn : Cond.selects yX7_drawn.cls yX7_drawn yX7_drawn ∈ zW := zin5 (List.mem_of_getElem? (i := 211) (by decide +kernel)) rfl
theorem zce_X7_lowest : zCe yX7_lowest cX7_lowest 11 (some .long) 3 := ⟨zin5 (List.mem_of_getElem? (i := 227) rfl) rfl, zini_X7, ⟨by decide +kernel, by decide +kernel⟩, by decide +kernel, by decide⟩
theorem zt_X7_lowest : Cond.static yX7_lowest ∈ zW := zin5 (List.mem_of_getElem? (i := 226) (by decide +kernel)) rfl
theorem zce_X7_odds : zCe yX7_odds cX7_odds 10 (some .long) 5 := ⟨zin5 (List.mem_of_getElem? (i := 223) rfl) rfl, zini_X7, ⟨by decide +kernel, by decide +kernel⟩, by decide +kernel, by decide⟩
theorem zi_X7_odds : Cond.instanceMethod yX7_odds ∈ zW := zin5 (List.mem_of_getElem? (i := 221) (by decide +kernel)) rfl
theorem zs_X7_odds : Cond.selects yX7_odds.cls yX7_odds yX7_odds ∈ zW := zin5 (List.mem_of_getElem? (i := 222) (by decide +kernel)) rfl
theorem zce_X7_image : zCe yX7_image cX7_image 2 (some .int) 0 := ⟨zin5 (List.mem_of_getElem? (i := 231) rfl) rfl, zini_X7, ⟨by decide +kernel, by decide +kernel⟩, by decide +kernel, by decide⟩
theorem zi_X7_image : Cond.instanceMethod yX7_image ∈ zW := zin5 (List.mem_of_getElem? (i := 229) (by decide +kernel)) rfl
theorem zs_X7_image : Cond.selects yX7_image.cls yX7_image yX7_image ∈ zW := zin5 (List.mem_of_getElem? (i := 230) (by decide +kernel)) rfl
theorem zce_X7_back : zCe yX7_back cX7_back 2 (some .int) 0 := ⟨zin5 (List.mem_of_getElem? (i := 235) rfl) rfl, zini_X7, ⟨by decide +kernel, by decide +kernel⟩, by decide +kernel, by decide⟩
theorem zi_X7_back : Cond.instanceMethod yX7_back ∈ zW := zin5 (List.mem_of_getElem? (i := 233) (by decide +kernel)) rfl
theorem zs_X7_back : Cond.selects yX7_back.cls yX7_back yX7_back ∈ zW := zin5 (List.mem_of_getElem? (i := 234) (by decide +kernel)) rfl
theorem zce_X7_sheet : zCe yX7_sheet cX7_sheet 5 (some .int) 3 := ⟨zin5 (List.mem_of_getElem? (i := 239) rfl) rfl, zini_X7, ⟨by decide +kernel, by decide +kernel⟩, by decide +kernel, by decide⟩
theorem zi_X7_sheet : Cond.instanceMethod yX7_sheet ∈ zW := zin5 (List.mem_of_getElem? (i := 237) (by decide +kernel)) rfl
theorem zs_X7_sheet : Cond.selects yX7_sheet.cls yX7_sheet yX7_sheet ∈ zW := zin5 (List.mem_of_getElem? (i := 238) (by decide +kernel)) rfl
theorem zce_X7_cell : zCe yX7_cell cX7_cell 4 (some .int) 3 := ⟨zin6 (List.mem_of_getElem? (i := 3) rfl) rfl, zini_X7, ⟨by decide +kernel, by decide +kernel⟩, by decide +kernel, by decide⟩
theorem zi_X7_cell : Cond.instanceMethod yX7_cell ∈ zW := zin6 (List.mem_of_getElem? (i := 1) (by decide +kernel)) rfl
theorem zs_X7_cell : Cond.selects yX7_cell.cls yX7_cell yX7_cell ∈ zW := zin6 (List.mem_of_getElem? (i := 2) (by decide +kernel)) rfl
theorem zce_X7_copy : zCe yX7_copy cX7_copy 10 (some .int) 5 := ⟨zin6 (List.mem_of_getElem? (i := 7) rfl) rfl, zini_X7, ⟨by decide +kernel, by decide +kernel⟩, by decide +kernel, by decide⟩
theorem zi_X7_copy : Cond.instanceMethod yX7_copy ∈ zW := zin6 (List.mem_of_getElem? (i := 5) (by decide +kernel)) rfl
theorem zs_X7_copy : Cond.selects yX7_copy.cls yX7_copy yX7_copy ∈ zW := zin6 (List.mem_of_getElem? (i := 6) (by decide +kernel)) rfl
theorem zce_X7_hutsBy : zCe yX7_hutsBy cX7_hutsBy 9 (some .int) 4 := ⟨zin6 (List.mem_of_getElem? (i := 11) rfl) rfl, zini_X7, ⟨by decide +kernel, by decide +kernel⟩, by decide +kernel, by decide⟩
theorem zi_X7_hutsBy : Cond.instanceMethod yX7_hutsBy ∈ zW := zin6 (List.mem_of_getElem? (i := 9) (by decide +kernel)) rfl
theorem zs_X7_hutsBy : Cond.selects yX7_hutsBy.cls yX7_hutsBy yX7_hutsBy ∈ zW := zin6 (List.mem_of_getElem? (i := 10) (by decide +kernel)) rfl
theorem zce_X7_isUnder : zCe yX7_isUnder cX7_isUnder 2 (some .boolean) 2 := ⟨zin6 (List.mem_of_getElem? (i := 19) rfl) rfl, zini_X7, ⟨by decide +kernel, by decide +kernel⟩, by decide +kernel, by decide⟩
theorem zt_X7_isUnder : Cond.static yX7_isUnder ∈ zW := zin6 (List.mem_of_getElem? (i := 18) (by decide +kernel)) rfl
theorem zce_X7_taken : zCe yX7_taken cX7_taken 3 (some .int) 2 := ⟨zin6 (List.mem_of_getElem? (i := 16) rfl) rfl, zini_X7, ⟨by decide +kernel, by decide +kernel⟩, by decide +kernel, by decide⟩
theorem zi_X7_taken : Cond.instanceMethod yX7_taken ∈ zW := zin6 (List.mem_of_getElem? (i := 14) (by decide +kernel)) rfl
theorem zs_X7_taken : Cond.selects yX7_taken.cls yX7_taken yX7_taken ∈ zW := zin6 (List.mem_of_getElem? (i := 15) (by decide +kernel)) rfl
theorem zce_X2_init : zCe yX2_init cX2_init 1 none 0 := ⟨zin1 (List.mem_of_getElem? (i := 49) rfl) rfl, zini_X2, ⟨by decide +kernel, by decide +kernel⟩, by decide +kernel, by decide⟩
theorem zi_X2_init : Cond.instanceMethod yX2_init ∈ zW := zin1 (List.mem_of_getElem? (i := 48) (by decide +kernel)) rfl
theorem zce_X3_init : zCe yX3_init cX3_init 1 none 0 := ⟨zin2 (List.mem_of_getElem? (i := 82) rfl) rfl, zini_X3, ⟨by decide +kernel, by decide +kernel⟩, by decide +kernel, by decide⟩
theorem zi_X3_init : Cond.instanceMethod yX3_init ∈ zW := zin2 (List.mem_of_getElem? (i := 81) (by decide +kernel)) rfl
theorem zce_X4_init : zCe yX4_init cX4_init 1 none 0 := ⟨zin1 (List.mem_of_getElem? (i := 28) rfl) rfl, zini_X4, ⟨by decide +kernel, by decide +kernel⟩, by decide +kernel, by decide⟩
theorem zi_X4_init : Cond.instanceMethod yX4_init ∈ zW := zin1 (List.mem_of_getElem? (i := 27) (by decide +kernel)) rfl
theorem zce_X5_init : zCe yX5_init cX5_init 2 none 1 := ⟨zin2 (List.mem_of_getElem? (i := 17) rfl) rfl, zini_X5, ⟨by decide +kernel, by decide +kernel⟩, by decide +kernel, by decide⟩
theorem zi_X5_init : Cond.instanceMethod yX5_init ∈ zW := zin2 (List.mem_of_getElem? (i := 16) (by decide +kernel)) rfl
theorem zce_X6_init : zCe yX6_init cX6_init 2 none 0 := ⟨zin1 (List.mem_of_getElem? (i := 20) rfl) rfl, zini_X6, ⟨by decide +kernel, by decide +kernel⟩, by decide +kernel, by decide⟩
theorem zi_X6_init : Cond.instanceMethod yX6_init ∈ zW := zin1 (List.mem_of_getElem? (i := 19) (by decide +kernel)) rfl
theorem zce_X7_init : zCe yX7_init cX7_init 2 none 0 := ⟨zin4 (List.mem_of_getElem? (i := 58) rfl) rfl, zini_X7, ⟨by decide +kernel, by decide +kernel⟩, by decide +kernel, by decide⟩
theorem zi_X7_init : Cond.instanceMethod yX7_init ∈ zW := zin4 (List.mem_of_getElem? (i := 57) (by decide +kernel)) rfl
theorem zcl_L_7 : Cond.classLink RL 7 RX6 ∈ zW := zin1 (List.mem_of_getElem? (i := 16) (by decide +kernel)) rfl
theorem zins_X6 : Cond.instantiable RX6 8 ∈ zW := zin1 (List.mem_of_getElem? (i := 17) (by decide +kernel)) rfl
theorem zm_L_9 : Cond.methodLink RL 9 yX6_init ∈ zW := zin1 (List.mem_of_getElem? (i := 18) (by decide +kernel)) rfl
theorem zm_X6_1 : Cond.methodLink RX6 1 Lib.objectInit ∈ zW := zin1 (List.mem_of_getElem? (i := 21) (by decide +kernel)) rfl
theorem zcl_X6_7 : Cond.classLink RX6 7 RX4 ∈ zW := zin1 (List.mem_of_getElem? (i := 24) (by decide +kernel)) rfl
theorem zins_X4 : Cond.instantiable RX4 4 ∈ zW := zin1 (List.mem_of_getElem? (i := 25) (by decide +kernel)) rfl
theorem zm_X4_3 : Cond.methodLink RX4 3 Lib.objectInit ∈ zW := zin1 (List.mem_of_getElem? (i := 29) (by decide +kernel)) rfl
theorem zcl_X6_16 : Cond.classLink RX6 16 RX2 ∈ zW := zin1 (List.mem_of_getElem? (i := 45) (by decide +kernel)) rfl
theorem zins_X2 : Cond.instantiable RX2 10 ∈ zW := zin1 (List.mem_of_getElem? (i := 46) (by decide +kernel)) rfl
theorem zm_X2_3 : Cond.methodLink RX2 3 Lib.objectInit ∈ zW := zin1 (List.mem_of_getElem? (i := 50) (by decide +kernel)) rfl
theorem zm_X6_25 : Cond.methodLink RX6 25 yJ0_length_8abf5 ∈ zW := zin1 (List.mem_of_getElem? (i := 86) (by decide +kernel)) rfl
theorem zm_J0_335 : Cond.methodLink RJ0 335 yJ0_coder_7d493 ∈ zW := zin1 (List.mem_of_getElem? (i := 90) (by decide +kernel)) rfl
theorem zm_X6_31 : Cond.methodLink RX6 31 yJ0_charAt_5068e ∈ zW := zin1 (List.mem_of_getElem? (i := 96) (by decide +kernel)) rfl
theorem zm_J0_492 : Cond.methodLink RJ0 492 yJ0_isLatin1_aae02 ∈ zW := zin1 (List.mem_of_getElem? (i := 100) (by decide +kernel)) rfl
theorem zm_J0_495 : Cond.methodLink RJ0 495 yJ1_charAt_3b067 ∈ zW := zin1 (List.mem_of_getElem? (i := 104) (by decide +kernel)) rfl
theorem zm_J1_9 : Cond.methodLink RJ1 9 yJ0_checkIndex_df160 ∈ zW := zin1 (List.mem_of_getElem? (i := 107) (by decide +kernel)) rfl
theorem zm_J0_1059 : Cond.methodLink RJ0 1059 yJ3_checkIndex_8e157 ∈ zW := zin1 (List.mem_of_getElem? (i := 112) (by decide +kernel)) rfl
theorem zm_J0_498 : Cond.methodLink RJ0 498 yJ2_charAt_3b067 ∈ zW := zin1 (List.mem_of_getElem? (i := 115) (by decide +kernel)) rfl
theorem zm_J2_67 : Cond.methodLink RJ2 67 yJ2_checkIndex_2214a ∈ zW := zin1 (List.mem_of_getElem? (i := 118) (by decide +kernel)) rfl
theorem zm_J2_48 : Cond.methodLink RJ2 48 yJ2_length_9d52b ∈ zW := zin1 (List.mem_of_getElem? (i := 121) (by decide +kernel)) rfl
theorem zm_J2_414 : Cond.methodLink RJ2 414 yJ0_checkIndex_df160 ∈ zW := zin1 (List.mem_of_getElem? (i := 124) (by decide +kernel)) rfl
theorem zm_J2_71 : Cond.methodLink RJ2 71 yJ2_getChar_3b067 ∈ zW := zin1 (List.mem_of_getElem? (i := 125) (by decide +kernel)) rfl
theorem zm_X6_35 : Cond.methodLink RX6 35 yX2_takeByte ∈ zW := zin1 (List.mem_of_getElem? (i := 134) (by decide +kernel)) rfl
theorem zm_X6_39 : Cond.methodLink RX6 39 yX2_readText ∈ zW := zin1 (List.mem_of_getElem? (i := 138) (by decide +kernel)) rfl
theorem zm_X2_34 : Cond.methodLink RX2 34 yX2_readToken ∈ zW := zin1 (List.mem_of_getElem? (i := 142) (by decide +kernel)) rfl
theorem zm_X2_84 : Cond.methodLink RX2 84 yX2_byteAt ∈ zW := zin1 (List.mem_of_getElem? (i := 146) (by decide +kernel)) rfl
theorem zm_X2_87 : Cond.methodLink RX2 87 yX2_isBlank ∈ zW := zin1 (List.mem_of_getElem? (i := 150) (by decide +kernel)) rfl
theorem zm_X2_90 : Cond.methodLink RX2 90 yX2_isLetter ∈ zW := zin1 (List.mem_of_getElem? (i := 153) (by decide +kernel)) rfl
theorem zm_X2_93 : Cond.methodLink RX2 93 yX2_endOfWord ∈ zW := zin1 (List.mem_of_getElem? (i := 159) (by decide +kernel)) rfl
theorem zm_X2_97 : Cond.methodLink RX2 97 yX2_nameRead ∈ zW := zin1 (List.mem_of_getElem? (i := 163) (by decide +kernel)) rfl
theorem zm_X2_114 : Cond.methodLink RX2 114 yX2_isRead ∈ zW := zin1 (List.mem_of_getElem? (i := 168) (by decide +kernel)) rfl
theorem zm_X2_140 : Cond.methodLink RX2 140 yJ0_length_8abf5 ∈ zW := zin1 (List.mem_of_getElem? (i := 172) (by decide +kernel)) rfl
theorem zm_X2_145 : Cond.methodLink RX2 145 yJ0_charAt_5068e ∈ zW := zin1 (List.mem_of_getElem? (i := 173) (by decide +kernel)) rfl
theorem zm_X2_100 : Cond.methodLink RX2 100 yX2_keyRead ∈ zW := zin1 (List.mem_of_getElem? (i := 179) (by decide +kernel)) rfl
theorem zm_X2_103 : Cond.methodLink RX2 103 yX2_isDigit ∈ zW := zin1 (List.mem_of_getElem? (i := 189) (by decide +kernel)) rfl
theorem zm_X2_106 : Cond.methodLink RX2 106 yX2_readNumber ∈ zW := zin1 (List.mem_of_getElem? (i := 192) (by decide +kernel)) rfl
theorem zm_X2_109 : Cond.methodLink RX2 109 yX2_isSign ∈ zW := zin1 (List.mem_of_getElem? (i := 196) (by decide +kernel)) rfl
theorem zm_X2_37 : Cond.methodLink RX2 37 yX2_expect ∈ zW := zin1 (List.mem_of_getElem? (i := 199) (by decide +kernel)) rfl
theorem zm_X2_47 : Cond.methodLink RX2 47 yX2_fail ∈ zW := zin1 (List.mem_of_getElem? (i := 203) (by decide +kernel)) rfl
theorem zm_X2_41 : Cond.methodLink RX2 41 yX2_readOr ∈ zW := zin1 (List.mem_of_getElem? (i := 207) (by decide +kernel)) rfl
theorem zm_X2_53 : Cond.methodLink RX2 53 yX2_readAnd ∈ zW := zin1 (List.mem_of_getElem? (i := 211) (by decide +kernel)) rfl
theorem zm_X2_61 : Cond.methodLink RX2 61 yX2_readNot ∈ zW := zin1 (List.mem_of_getElem? (i := 215) (by decide +kernel)) rfl
theorem zm_X2_64 : Cond.methodLink RX2 64 yX2_opens ∈ zW := zin1 (List.mem_of_getElem? (i := 219) (by decide +kernel)) rfl
theorem zm_X2_58 : Cond.methodLink RX2 58 yX2_emit ∈ zW := zin1 (List.mem_of_getElem? (i := 223) (by decide +kernel)) rfl
theorem zm_X2_68 : Cond.methodLink RX2 68 yX2_readSum ∈ zW := zin1 (List.mem_of_getElem? (i := 227) (by decide +kernel)) rfl
theorem zm_X2_71 : Cond.methodLink RX2 71 yX2_readTerm ∈ zW := zin1 (List.mem_of_getElem? (i := 231) (by decide +kernel)) rfl
theorem zm_X2_74 : Cond.methodLink RX2 74 yX2_readOne ∈ zW := zin1 (List.mem_of_getElem? (i := 235) (by decide +kernel)) rfl
theorem zm_X2_80 : Cond.methodLink RX2 80 yX0_ofName ∈ zW := zin1 (List.mem_of_getElem? (i := 239) (by decide +kernel)) rfl
theorem zm_X6_42 : Cond.methodLink RX6 42 yX4_keep ∈ zW := zin2 (List.mem_of_getElem? (i := 2) (by decide +kernel)) rfl
theorem zm_X4_28 : Cond.methodLink RX4 28 arraycopyName ∈ zW := zin2 (List.mem_of_getElem? (i := 6) (by decide +kernel)) rfl
theorem zm_X6_46 : Cond.methodLink RX6 46 yX2_clear ∈ zW := zin2 (List.mem_of_getElem? (i := 9) (by decide +kernel)) rfl
theorem zcl_X6_49 : Cond.classLink RX6 49 RX5 ∈ zW := zin2 (List.mem_of_getElem? (i := 13) (by decide +kernel)) rfl
theorem zins_X5 : Cond.instantiable RX5 15 ∈ zW := zin2 (List.mem_of_getElem? (i := 14) (by decide +kernel)) rfl
theorem zm_X6_51 : Cond.methodLink RX6 51 yX5_init ∈ zW := zin2 (List.mem_of_getElem? (i := 15) (by decide +kernel)) rfl
theorem zm_X5_3 : Cond.methodLink RX5 3 Lib.objectInit ∈ zW := zin2 (List.mem_of_getElem? (i := 18) (by decide +kernel)) rfl
theorem zcl_X6_64 : Cond.classLink RX6 64 RX3 ∈ zW := zin2 (List.mem_of_getElem? (i := 78) (by decide +kernel)) rfl
theorem zins_X3 : Cond.instantiable RX3 3 ∈ zW := zin2 (List.mem_of_getElem? (i := 79) (by decide +kernel)) rfl
theorem zm_X3_1 : Cond.methodLink RX3 1 Lib.objectInit ∈ zW := zin2 (List.mem_of_getElem? (i := 83) (by decide +kernel)) rfl
theorem zm_L_13 : Cond.methodLink RL 13 yX6_count ∈ zW := zin2 (List.mem_of_getElem? (i := 119) (by decide +kernel)) rfl
theorem zm_X6_89 : Cond.methodLink RX6 89 yX5_heatOfAll ∈ zW := zin2 (List.mem_of_getElem? (i := 123) (by decide +kernel)) rfl
theorem zm_L_18 : Cond.methodLink RL 18 yX6_feed ∈ zW := zin2 (List.mem_of_getElem? (i := 127) (by decide +kernel)) rfl
theorem zm_X6_101 : Cond.methodLink RX6 101 yX6_isFromTo ∈ zW := zin2 (List.mem_of_getElem? (i := 131) (by decide +kernel)) rfl
theorem zm_X6_105 : Cond.methodLink RX6 105 yX6_isByte ∈ zW := zin2 (List.mem_of_getElem? (i := 132) (by decide +kernel)) rfl
theorem zm_L_23 : Cond.methodLink RL 23 yX6_text ∈ zW := zin2 (List.mem_of_getElem? (i := 135) (by decide +kernel)) rfl
theorem zm_L_28 : Cond.methodLink RL 28 yX6_force ∈ zW := zin2 (List.mem_of_getElem? (i := 139) (by decide +kernel)) rfl
theorem zm_L_32 : Cond.methodLink RL 32 yX6_asks ∈ zW := zin2 (List.mem_of_getElem? (i := 143) (by decide +kernel)) rfl
theorem zm_X6_109 : Cond.methodLink RX6 109 yX5_isHut ∈ zW := zin2 (List.mem_of_getElem? (i := 147) (by decide +kernel)) rfl
theorem zm_X6_112 : Cond.methodLink RX6 112 yX5_says ∈ zW := zin2 (List.mem_of_getElem? (i := 151) (by decide +kernel)) rfl
theorem zm_X5_137 : Cond.methodLink RX5 137 yX5_owes ∈ zW := zin2 (List.mem_of_getElem? (i := 155) (by decide +kernel)) rfl
theorem zm_X5_72 : Cond.methodLink RX5 72 yX5_coalsWhere ∈ zW := zin2 (List.mem_of_getElem? (i := 159) (by decide +kernel)) rfl
theorem zm_X5_141 : Cond.methodLink RX5 141 yX4_valueOf ∈ zW := zin2 (List.mem_of_getElem? (i := 163) (by decide +kernel)) rfl
theorem zm_X4_35 : Cond.methodLink RX4 35 yX0_isOfTwo ∈ zW := zin2 (List.mem_of_getElem? (i := 167) (by decide +kernel)) rfl
theorem zm_X4_41 : Cond.methodLink RX4 41 yX0_ofTwo ∈ zW := zin2 (List.mem_of_getElem? (i := 170) (by decide +kernel)) rfl
theorem zm_X4_45 : Cond.methodLink RX4 45 yX0_isOfOne ∈ zW := zin2 (List.mem_of_getElem? (i := 173) (by decide +kernel)) rfl
theorem zm_X4_48 : Cond.methodLink RX4 48 yX0_ofOne ∈ zW := zin2 (List.mem_of_getElem? (i := 176) (by decide +kernel)) rfl
theorem zm_X4_52 : Cond.methodLink RX4 52 yX0_isName ∈ zW := zin2 (List.mem_of_getElem? (i := 179) (by decide +kernel)) rfl
theorem zm_X4_55 : Cond.methodLink RX4 55 yX0_ofName ∈ zW := zin2 (List.mem_of_getElem? (i := 182) (by decide +kernel)) rfl
theorem zm_X5_84 : Cond.methodLink RX5 84 Lib.Math.min.name ∈ zW := zin2 (List.mem_of_getElem? (i := 183) (by decide +kernel)) rfl
theorem zm_X5_108 : Cond.methodLink RX5 108 Lib.Math.max.name ∈ zW := zin2 (List.mem_of_getElem? (i := 186) (by decide +kernel)) rfl
theorem zm_L_37 : Cond.methodLink RL 37 yX6_hut ∈ zW := zin2 (List.mem_of_getElem? (i := 189) (by decide +kernel)) rfl
theorem zm_X6_116 : Cond.methodLink RX6 116 yX5_comes ∈ zW := zin2 (List.mem_of_getElem? (i := 193) (by decide +kernel)) rfl
theorem zq_X5_71 : Cond.constant RX5 71 (999999) ∈ zW := zin2 (List.mem_of_getElem? (i := 198) (by decide +kernel)) rfl
theorem zm_L_42 : Cond.methodLink RL 42 yX6_put ∈ zW := zin2 (List.mem_of_getElem? (i := 199) (by decide +kernel)) rfl
theorem zm_X6_120 : Cond.methodLink RX6 120 yX6_mostOf ∈ zW := zin2 (List.mem_of_getElem? (i := 203) (by decide +kernel)) rfl
theorem zm_X6_124 : Cond.methodLink RX6 124 yX5_stateOf ∈ zW := zin2 (List.mem_of_getElem? (i := 206) (by decide +kernel)) rfl
theorem zm_X6_127 : Cond.methodLink RX6 127 yX5_become ∈ zW := zin2 (List.mem_of_getElem? (i := 210) (by decide +kernel)) rfl
theorem zm_L_46 : Cond.methodLink RL 46 yX6_told ∈ zW := zin2 (List.mem_of_getElem? (i := 214) (by decide +kernel)) rfl
theorem zm_X6_137 : Cond.methodLink RX6 137 yX5_owes ∈ zW := zin2 (List.mem_of_getElem? (i := 218) (by decide +kernel)) rfl
theorem zm_X6_140 : Cond.methodLink RX6 140 yX5_isOwed ∈ zW := zin2 (List.mem_of_getElem? (i := 219) (by decide +kernel)) rfl
theorem zm_X6_143 : Cond.methodLink RX6 143 yX5_loansFrom ∈ zW := zin2 (List.mem_of_getElem? (i := 223) (by decide +kernel)) rfl
theorem zm_L_50 : Cond.methodLink RL 50 yX6_lend ∈ zW := zin2 (List.mem_of_getElem? (i := 227) (by decide +kernel)) rfl
theorem zm_X6_146 : Cond.methodLink RX6 146 yX6_isCoalNights ∈ zW := zin2 (List.mem_of_getElem? (i := 231) (by decide +kernel)) rfl
theorem zm_X6_150 : Cond.methodLink RX6 150 yX5_lends ∈ zW := zin2 (List.mem_of_getElem? (i := 234) (by decide +kernel)) rfl
theorem zm_X5_80 : Cond.methodLink RX5 80 yX5_pass ∈ zW := zin2 (List.mem_of_getElem? (i := 238) (by decide +kernel)) rfl
theorem zm_L_54 : Cond.methodLink RL 54 yX6_loan ∈ zW := zin3 (List.mem_of_getElem? (i := 2) (by decide +kernel)) rfl
theorem zm_X6_154 : Cond.methodLink RX6 154 yX5_isLoan ∈ zW := zin3 (List.mem_of_getElem? (i := 6) (by decide +kernel)) rfl
theorem zm_L_58 : Cond.methodLink RL 58 yX6_repay ∈ zW := zin3 (List.mem_of_getElem? (i := 10) (by decide +kernel)) rfl
theorem zm_X6_169 : Cond.methodLink RX6 169 yX5_canRepay ∈ zW := zin3 (List.mem_of_getElem? (i := 14) (by decide +kernel)) rfl
theorem zm_X6_172 : Cond.methodLink RX6 172 yX5_payBack ∈ zW := zin3 (List.mem_of_getElem? (i := 18) (by decide +kernel)) rfl
theorem zm_X6_175 : Cond.methodLink RX6 175 yX5_drop ∈ zW := zin3 (List.mem_of_getElem? (i := 22) (by decide +kernel)) rfl
theorem zm_L_62 : Cond.methodLink RL 62 yX6_forgive ∈ zW := zin3 (List.mem_of_getElem? (i := 26) (by decide +kernel)) rfl
theorem zm_L_66 : Cond.methodLink RL 66 yX6_night ∈ zW := zin3 (List.mem_of_getElem? (i := 30) (by decide +kernel)) rfl
theorem zm_X6_178 : Cond.methodLink RX6 178 yX5_passNight ∈ zW := zin3 (List.mem_of_getElem? (i := 34) (by decide +kernel)) rfl
theorem zm_X5_90 : Cond.methodLink RX5 90 yX5_grow ∈ zW := zin3 (List.mem_of_getElem? (i := 38) (by decide +kernel)) rfl
theorem zm_X5_111 : Cond.methodLink RX5 111 yX5_says ∈ zW := zin3 (List.mem_of_getElem? (i := 42) (by decide +kernel)) rfl
theorem zm_X5_115 : Cond.methodLink RX5 115 yX1_growth ∈ zW := zin3 (List.mem_of_getElem? (i := 43) (by decide +kernel)) rfl
theorem zm_X5_94 : Cond.methodLink RX5 94 yX5_endDueLoans ∈ zW := zin3 (List.mem_of_getElem? (i := 46) (by decide +kernel)) rfl
theorem zm_X5_121 : Cond.methodLink RX5 121 yX5_canRepay ∈ zW := zin3 (List.mem_of_getElem? (i := 50) (by decide +kernel)) rfl
theorem zm_X5_125 : Cond.methodLink RX5 125 yX5_payBack ∈ zW := zin3 (List.mem_of_getElem? (i := 51) (by decide +kernel)) rfl
theorem zm_X5_128 : Cond.methodLink RX5 128 yX5_drop ∈ zW := zin3 (List.mem_of_getElem? (i := 52) (by decide +kernel)) rfl
theorem zm_X5_98 : Cond.methodLink RX5 98 yX5_warm ∈ zW := zin3 (List.mem_of_getElem? (i := 53) (by decide +kernel)) rfl
theorem zm_X5_131 : Cond.methodLink RX5 131 yX1_burning ∈ zW := zin3 (List.mem_of_getElem? (i := 57) (by decide +kernel)) rfl
theorem zm_X5_134 : Cond.methodLink RX5 134 yX1_cooling ∈ zW := zin3 (List.mem_of_getElem? (i := 60) (by decide +kernel)) rfl
theorem zm_L_70 : Cond.methodLink RL 70 yX6_run ∈ zW := zin3 (List.mem_of_getElem? (i := 63) (by decide +kernel)) rfl
theorem zm_X6_181 : Cond.methodLink RX6 181 yX6_think ∈ zW := zin3 (List.mem_of_getElem? (i := 67) (by decide +kernel)) rfl
theorem zm_X6_277 : Cond.methodLink RX6 277 yX5_becomeAs ∈ zW := zin3 (List.mem_of_getElem? (i := 71) (by decide +kernel)) rfl
theorem zm_X5_48 : Cond.methodLink RX5 48 arraycopyName ∈ zW := zin3 (List.mem_of_getElem? (i := 75) (by decide +kernel)) rfl
theorem zm_X6_185 : Cond.methodLink RX6 185 yX5_passNights ∈ zW := zin3 (List.mem_of_getElem? (i := 76) (by decide +kernel)) rfl
theorem zm_X5_101 : Cond.methodLink RX5 101 yX5_passNight ∈ zW := zin3 (List.mem_of_getElem? (i := 80) (by decide +kernel)) rfl
theorem zm_L_74 : Cond.methodLink RL 74 yX6_lasts ∈ zW := zin3 (List.mem_of_getElem? (i := 81) (by decide +kernel)) rfl
theorem zm_X6_191 : Cond.methodLink RX6 191 yX6_nightsToFailing ∈ zW := zin3 (List.mem_of_getElem? (i := 85) (by decide +kernel)) rfl
theorem zm_X6_197 : Cond.methodLink RX6 197 yX6_has ∈ zW := zin3 (List.mem_of_getElem? (i := 89) (by decide +kernel)) rfl
theorem zm_X6_194 : Cond.methodLink RX6 194 yX6_nightsToNoHeat ∈ zW := zin3 (List.mem_of_getElem? (i := 92) (by decide +kernel)) rfl
theorem zm_L_78 : Cond.methodLink RL 78 yX6_net ∈ zW := zin3 (List.mem_of_getElem? (i := 96) (by decide +kernel)) rfl
theorem zq_X6_200 : Cond.constant RX6 200 (-1000000) ∈ zW := zin3 (List.mem_of_getElem? (i := 100) (by decide +kernel)) rfl
theorem zm_L_82 : Cond.methodLink RL 82 yX6_settle ∈ zW := zin3 (List.mem_of_getElem? (i := 101) (by decide +kernel)) rfl
theorem zm_X6_201 : Cond.methodLink RX6 201 yX6_net ∈ zW := zin3 (List.mem_of_getElem? (i := 105) (by decide +kernel)) rfl
theorem zm_X6_204 : Cond.methodLink RX6 204 yX6_payOnce ∈ zW := zin3 (List.mem_of_getElem? (i := 106) (by decide +kernel)) rfl
theorem zm_X6_207 : Cond.methodLink RX6 207 Lib.Math.min.name ∈ zW := zin3 (List.mem_of_getElem? (i := 110) (by decide +kernel)) rfl
theorem zm_L_86 : Cond.methodLink RL 86 yX6_source ∈ zW := zin3 (List.mem_of_getElem? (i := 111) (by decide +kernel)) rfl
theorem zm_X6_212 : Cond.methodLink RX6 212 yX5_sourceOf ∈ zW := zin3 (List.mem_of_getElem? (i := 115) (by decide +kernel)) rfl
theorem zm_L_90 : Cond.methodLink RL 90 yX6_rings ∈ zW := zin3 (List.mem_of_getElem? (i := 120) (by decide +kernel)) rfl
theorem zm_L_94 : Cond.methodLink RL 94 yX6_ask ∈ zW := zin3 (List.mem_of_getElem? (i := 124) (by decide +kernel)) rfl
theorem zm_X6_215 : Cond.methodLink RX6 215 yX6_heatIfLent ∈ zW := zin3 (List.mem_of_getElem? (i := 128) (by decide +kernel)) rfl
theorem zm_L_98 : Cond.methodLink RL 98 yX6_needs ∈ zW := zin3 (List.mem_of_getElem? (i := 132) (by decide +kernel)) rfl
theorem zm_X6_221 : Cond.methodLink RX6 221 yX5_failedIn ∈ zW := zin3 (List.mem_of_getElem? (i := 136) (by decide +kernel)) rfl
theorem zm_L_102 : Cond.methodLink RL 102 yX6_mercy ∈ zW := zin3 (List.mem_of_getElem? (i := 140) (by decide +kernel)) rfl
theorem zm_X6_224 : Cond.methodLink RX6 224 yJ6_bitCount_0f7a4 ∈ zW := zin3 (List.mem_of_getElem? (i := 144) (by decide +kernel)) rfl
theorem zq_J6_265 : Cond.constant RJ6 265 (1431655765) ∈ zW := zin3 (List.mem_of_getElem? (i := 147) (by decide +kernel)) rfl
theorem zq_J6_266 : Cond.constant RJ6 266 (858993459) ∈ zW := zin3 (List.mem_of_getElem? (i := 148) (by decide +kernel)) rfl
theorem zq_J6_267 : Cond.constant RJ6 267 (252645135) ∈ zW := zin3 (List.mem_of_getElem? (i := 149) (by decide +kernel)) rfl
theorem zm_L_106 : Cond.methodLink RL 106 yX6_worst ∈ zW := zin3 (List.mem_of_getElem? (i := 150) (by decide +kernel)) rfl
theorem zm_X6_229 : Cond.methodLink RX6 229 yX6_heatOfOthersWithout ∈ zW := zin3 (List.mem_of_getElem? (i := 154) (by decide +kernel)) rfl
theorem zm_L_110 : Cond.methodLink RL 110 yX6_judge ∈ zW := zin3 (List.mem_of_getElem? (i := 158) (by decide +kernel)) rfl
theorem zm_X6_232 : Cond.methodLink RX6 232 yX6_judgeRefusal ∈ zW := zin3 (List.mem_of_getElem? (i := 162) (by decide +kernel)) rfl
theorem zm_X6_245 : Cond.methodLink RX6 245 yX6_toldRefusal ∈ zW := zin3 (List.mem_of_getElem? (i := 166) (by decide +kernel)) rfl
theorem zm_X6_248 : Cond.methodLink RX6 248 yX3_isSheet ∈ zW := zin3 (List.mem_of_getElem? (i := 170) (by decide +kernel)) rfl
theorem zm_X6_263 : Cond.methodLink RX6 263 yX3_isMissing ∈ zW := zin3 (List.mem_of_getElem? (i := 174) (by decide +kernel)) rfl
theorem zm_X6_257 : Cond.methodLink RX6 257 yX3_sizeOf ∈ zW := zin3 (List.mem_of_getElem? (i := 178) (by decide +kernel)) rfl
theorem zm_X6_235 : Cond.methodLink RX6 235 yX6_firstOtherwise ∈ zW := zin3 (List.mem_of_getElem? (i := 182) (by decide +kernel)) rfl
theorem zm_X6_260 : Cond.methodLink RX6 260 yX3_at ∈ zW := zin3 (List.mem_of_getElem? (i := 186) (by decide +kernel)) rfl
theorem zm_L_114 : Cond.methodLink RL 114 yX6_kinds ∈ zW := zin3 (List.mem_of_getElem? (i := 190) (by decide +kernel)) rfl
theorem zm_X6_241 : Cond.methodLink RX6 241 yX6_isTold ∈ zW := zin3 (List.mem_of_getElem? (i := 194) (by decide +kernel)) rfl
theorem zm_L_118 : Cond.methodLink RL 118 yX6_states ∈ zW := zin3 (List.mem_of_getElem? (i := 198) (by decide +kernel)) rfl
theorem zm_L_123 : Cond.methodLink RL 123 yX6_whose ∈ zW := zin3 (List.mem_of_getElem? (i := 202) (by decide +kernel)) rfl
theorem zm_L_127 : Cond.methodLink RL 127 yX6_laws ∈ zW := zin3 (List.mem_of_getElem? (i := 206) (by decide +kernel)) rfl
theorem zm_L_131 : Cond.methodLink RL 131 yX6_film ∈ zW := zin3 (List.mem_of_getElem? (i := 210) (by decide +kernel)) rfl
theorem zm_X6_251 : Cond.methodLink RX6 251 yX3_renew ∈ zW := zin3 (List.mem_of_getElem? (i := 214) (by decide +kernel)) rfl
theorem zm_X6_254 : Cond.methodLink RX6 254 yX3_write ∈ zW := zin3 (List.mem_of_getElem? (i := 218) (by decide +kernel)) rfl
theorem zm_L_135 : Cond.methodLink RL 135 yX6_drawn ∈ zW := zin3 (List.mem_of_getElem? (i := 222) (by decide +kernel)) rfl
theorem zm_X6_266 : Cond.methodLink RX6 266 yX6_isSnow ∈ zW := zin3 (List.mem_of_getElem? (i := 226) (by decide +kernel)) rfl
theorem zq_X6_297 : Cond.constant RX6 297 (99999) ∈ zW := zin3 (List.mem_of_getElem? (i := 229) (by decide +kernel)) rfl
theorem zm_X6_269 : Cond.methodLink RX6 269 yX5_passSnow ∈ zW := zin3 (List.mem_of_getElem? (i := 230) (by decide +kernel)) rfl
theorem zq_X5_104 : Cond.constantLong RX5 104 (48271) ∈ zW := zin3 (List.mem_of_getElem? (i := 234) (by decide +kernel)) rfl
theorem zq_X5_106 : Cond.constantLong RX5 106 (2147483647) ∈ zW := zin3 (List.mem_of_getElem? (i := 235) (by decide +kernel)) rfl
theorem zm_L_139 : Cond.methodLink RL 139 yX6_odds ∈ zW := zin3 (List.mem_of_getElem? (i := 236) (by decide +kernel)) rfl
theorem zq_X6_272 : Cond.constantLong RX6 272 (-4611686018427387904) ∈ zW := zin4 (List.mem_of_getElem? (i := 0) (by decide +kernel)) rfl
theorem zm_X6_274 : Cond.methodLink RX6 274 yX6_greatestShared ∈ zW := zin4 (List.mem_of_getElem? (i := 1) (by decide +kernel)) rfl
theorem zm_L_144 : Cond.methodLink RL 144 yX6_image ∈ zW := zin4 (List.mem_of_getElem? (i := 4) (by decide +kernel)) rfl
theorem zm_L_148 : Cond.methodLink RL 148 yX6_back ∈ zW := zin4 (List.mem_of_getElem? (i := 8) (by decide +kernel)) rfl
theorem zm_L_152 : Cond.methodLink RL 152 yX6_sheet ∈ zW := zin4 (List.mem_of_getElem? (i := 12) (by decide +kernel)) rfl
theorem zm_L_156 : Cond.methodLink RL 156 yX6_cell ∈ zW := zin4 (List.mem_of_getElem? (i := 16) (by decide +kernel)) rfl
theorem zm_X6_281 : Cond.methodLink RX6 281 yX3_isPlace ∈ zW := zin4 (List.mem_of_getElem? (i := 20) (by decide +kernel)) rfl
theorem zm_L_160 : Cond.methodLink RL 160 yX6_copy ∈ zW := zin4 (List.mem_of_getElem? (i := 24) (by decide +kernel)) rfl
theorem zm_X6_284 : Cond.methodLink RX6 284 yX3_sortOf ∈ zW := zin4 (List.mem_of_getElem? (i := 28) (by decide +kernel)) rfl
theorem zm_X6_287 : Cond.methodLink RX6 287 yX3_isStretch ∈ zW := zin4 (List.mem_of_getElem? (i := 32) (by decide +kernel)) rfl
theorem zm_X6_290 : Cond.methodLink RX6 290 yX3_move ∈ zW := zin4 (List.mem_of_getElem? (i := 36) (by decide +kernel)) rfl
theorem zm_X3_19 : Cond.methodLink RX3 19 arraycopyName ∈ zW := zin4 (List.mem_of_getElem? (i := 40) (by decide +kernel)) rfl
theorem zm_L_165 : Cond.methodLink RL 165 yX6_hutsBy ∈ zW := zin4 (List.mem_of_getElem? (i := 41) (by decide +kernel)) rfl
theorem zm_L_169 : Cond.methodLink RL 169 yX6_taken ∈ zW := zin4 (List.mem_of_getElem? (i := 45) (by decide +kernel)) rfl
theorem zm_X6_294 : Cond.methodLink RX6 294 yX1_isOne ∈ zW := zin4 (List.mem_of_getElem? (i := 49) (by decide +kernel)) rfl
theorem zcl_L_10 : Cond.classLink RL 10 RX7 ∈ zW := zin4 (List.mem_of_getElem? (i := 54) (by decide +kernel)) rfl
theorem zins_X7 : Cond.instantiable RX7 37 ∈ zW := zin4 (List.mem_of_getElem? (i := 55) (by decide +kernel)) rfl
theorem zm_L_12 : Cond.methodLink RL 12 yX7_init ∈ zW := zin4 (List.mem_of_getElem? (i := 56) (by decide +kernel)) rfl
theorem zm_X7_1 : Cond.methodLink RX7 1 Lib.objectInit ∈ zW := zin4 (List.mem_of_getElem? (i := 59) (by decide +kernel)) rfl
theorem zm_X7_80 : Cond.methodLink RX7 80 yX7_text ∈ zW := zin4 (List.mem_of_getElem? (i := 60) (by decide +kernel)) rfl
theorem zm_X7_149 : Cond.methodLink RX7 149 yX7_next ∈ zW := zin4 (List.mem_of_getElem? (i := 64) (by decide +kernel)) rfl
theorem zm_X7_87 : Cond.methodLink RX7 87 yX7_in ∈ zW := zin4 (List.mem_of_getElem? (i := 68) (by decide +kernel)) rfl
theorem zm_X7_122 : Cond.methodLink RX7 122 yX7_wordFrom ∈ zW := zin4 (List.mem_of_getElem? (i := 71) (by decide +kernel)) rfl
theorem zm_X7_162 : Cond.methodLink RX7 162 yX7_eRead ∈ zW := zin4 (List.mem_of_getElem? (i := 75) (by decide +kernel)) rfl
theorem zq_X7_152 : Cond.constant RX7 152 (100000) ∈ zW := zin4 (List.mem_of_getElem? (i := 79) (by decide +kernel)) rfl
theorem zm_X7_139 : Cond.methodLink RX7 139 yX7_puts ∈ zW := zin4 (List.mem_of_getElem? (i := 80) (by decide +kernel)) rfl
theorem zm_X7_146 : Cond.methodLink RX7 146 yX7_unwinds ∈ zW := zin4 (List.mem_of_getElem? (i := 84) (by decide +kernel)) rfl
theorem zm_X7_132 : Cond.methodLink RX7 132 yX7_rank ∈ zW := zin4 (List.mem_of_getElem? (i := 88) (by decide +kernel)) rfl
theorem zm_X7_153 : Cond.methodLink RX7 153 yX7_opensOne ∈ zW := zin4 (List.mem_of_getElem? (i := 91) (by decide +kernel)) rfl
theorem zm_X7_143 : Cond.methodLink RX7 143 yX7_holds ∈ zW := zin4 (List.mem_of_getElem? (i := 95) (by decide +kernel)) rfl
theorem zm_X7_156 : Cond.methodLink RX7 156 yX7_signOf ∈ zW := zin4 (List.mem_of_getElem? (i := 99) (by decide +kernel)) rfl
theorem zm_X7_159 : Cond.methodLink RX7 159 yX7_between ∈ zW := zin4 (List.mem_of_getElem? (i := 103) (by decide +kernel)) rfl
theorem zm_L_17 : Cond.methodLink RL 17 yX7_count ∈ zW := zin4 (List.mem_of_getElem? (i := 219) (by decide +kernel)) rfl
theorem zm_X7_97 : Cond.methodLink RX7 97 yX7_heatAll ∈ zW := zin4 (List.mem_of_getElem? (i := 223) (by decide +kernel)) rfl
theorem zm_L_22 : Cond.methodLink RL 22 yX7_feed ∈ zW := zin4 (List.mem_of_getElem? (i := 227) (by decide +kernel)) rfl
theorem zm_X7_106 : Cond.methodLink RX7 106 yX7_isByte ∈ zW := zin4 (List.mem_of_getElem? (i := 231) (by decide +kernel)) rfl
theorem zm_L_27 : Cond.methodLink RL 27 yX7_text ∈ zW := zin4 (List.mem_of_getElem? (i := 234) (by decide +kernel)) rfl
theorem zm_L_31 : Cond.methodLink RL 31 yX7_force ∈ zW := zin4 (List.mem_of_getElem? (i := 235) (by decide +kernel)) rfl
theorem zm_L_36 : Cond.methodLink RL 36 yX7_asks ∈ zW := zin4 (List.mem_of_getElem? (i := 239) (by decide +kernel)) rfl
theorem zm_X7_179 : Cond.methodLink RX7 179 yX7_isHut ∈ zW := zin5 (List.mem_of_getElem? (i := 3) (by decide +kernel)) rfl
theorem zm_X7_182 : Cond.methodLink RX7 182 yX7_asksOf ∈ zW := zin5 (List.mem_of_getElem? (i := 7) (by decide +kernel)) rfl
theorem zm_X7_170 : Cond.methodLink RX7 170 yX7_owedBy ∈ zW := zin5 (List.mem_of_getElem? (i := 11) (by decide +kernel)) rfl
theorem zm_X7_173 : Cond.methodLink RX7 173 yX7_says ∈ zW := zin5 (List.mem_of_getElem? (i := 15) (by decide +kernel)) rfl
theorem zm_X7_166 : Cond.methodLink RX7 166 yX7_two ∈ zW := zin5 (List.mem_of_getElem? (i := 19) (by decide +kernel)) rfl
theorem zm_X7_176 : Cond.methodLink RX7 176 yX7_within ∈ zW := zin5 (List.mem_of_getElem? (i := 22) (by decide +kernel)) rfl
theorem zm_L_41 : Cond.methodLink RL 41 yX7_hut ∈ zW := zin5 (List.mem_of_getElem? (i := 25) (by decide +kernel)) rfl
theorem zq_X7_185 : Cond.constant RX7 185 (999999) ∈ zW := zin5 (List.mem_of_getElem? (i := 29) (by decide +kernel)) rfl
theorem zm_L_45 : Cond.methodLink RL 45 yX7_put ∈ zW := zin5 (List.mem_of_getElem? (i := 30) (by decide +kernel)) rfl
theorem zm_L_49 : Cond.methodLink RL 49 yX7_told ∈ zW := zin5 (List.mem_of_getElem? (i := 34) (by decide +kernel)) rfl
theorem zm_X7_186 : Cond.methodLink RX7 186 yX7_owedTo ∈ zW := zin5 (List.mem_of_getElem? (i := 38) (by decide +kernel)) rfl
theorem zm_X7_189 : Cond.methodLink RX7 189 yX7_lentBy ∈ zW := zin5 (List.mem_of_getElem? (i := 42) (by decide +kernel)) rfl
theorem zm_L_53 : Cond.methodLink RL 53 yX7_lend ∈ zW := zin5 (List.mem_of_getElem? (i := 46) (by decide +kernel)) rfl
theorem zm_X7_196 : Cond.methodLink RX7 196 yX7_areCoalNights ∈ zW := zin5 (List.mem_of_getElem? (i := 50) (by decide +kernel)) rfl
theorem zm_X7_199 : Cond.methodLink RX7 199 yX7_mayLend ∈ zW := zin5 (List.mem_of_getElem? (i := 53) (by decide +kernel)) rfl
theorem zm_X7_203 : Cond.methodLink RX7 203 yX7_lends ∈ zW := zin5 (List.mem_of_getElem? (i := 57) (by decide +kernel)) rfl
theorem zm_X7_192 : Cond.methodLink RX7 192 yX7_moves ∈ zW := zin5 (List.mem_of_getElem? (i := 61) (by decide +kernel)) rfl
theorem zm_L_57 : Cond.methodLink RL 57 yX7_loan ∈ zW := zin5 (List.mem_of_getElem? (i := 65) (by decide +kernel)) rfl
theorem zm_X7_206 : Cond.methodLink RX7 206 yX7_isLoan ∈ zW := zin5 (List.mem_of_getElem? (i := 69) (by decide +kernel)) rfl
theorem zm_L_61 : Cond.methodLink RL 61 yX7_repay ∈ zW := zin5 (List.mem_of_getElem? (i := 73) (by decide +kernel)) rfl
theorem zm_X7_209 : Cond.methodLink RX7 209 yX7_drops ∈ zW := zin5 (List.mem_of_getElem? (i := 77) (by decide +kernel)) rfl
theorem zm_L_65 : Cond.methodLink RL 65 yX7_forgive ∈ zW := zin5 (List.mem_of_getElem? (i := 81) (by decide +kernel)) rfl
theorem zm_L_69 : Cond.methodLink RL 69 yX7_night ∈ zW := zin5 (List.mem_of_getElem? (i := 85) (by decide +kernel)) rfl
theorem zm_X7_224 : Cond.methodLink RX7 224 yX7_nightOf ∈ zW := zin5 (List.mem_of_getElem? (i := 89) (by decide +kernel)) rfl
theorem zm_X7_218 : Cond.methodLink RX7 218 yX7_growsOf ∈ zW := zin5 (List.mem_of_getElem? (i := 93) (by decide +kernel)) rfl
theorem zm_X7_221 : Cond.methodLink RX7 221 yX7_hearth ∈ zW := zin5 (List.mem_of_getElem? (i := 97) (by decide +kernel)) rfl
theorem zm_X7_212 : Cond.methodLink RX7 212 yX7_burnsOf ∈ zW := zin5 (List.mem_of_getElem? (i := 101) (by decide +kernel)) rfl
theorem zm_X7_215 : Cond.methodLink RX7 215 yX7_coolsOf ∈ zW := zin5 (List.mem_of_getElem? (i := 105) (by decide +kernel)) rfl
theorem zm_L_73 : Cond.methodLink RL 73 yX7_run ∈ zW := zin5 (List.mem_of_getElem? (i := 109) (by decide +kernel)) rfl
theorem zm_X7_227 : Cond.methodLink RX7 227 yX7_keeps ∈ zW := zin5 (List.mem_of_getElem? (i := 113) (by decide +kernel)) rfl
theorem zm_X7_230 : Cond.methodLink RX7 230 yX7_goes ∈ zW := zin5 (List.mem_of_getElem? (i := 117) (by decide +kernel)) rfl
theorem zm_X7_233 : Cond.methodLink RX7 233 yX7_lays ∈ zW := zin5 (List.mem_of_getElem? (i := 121) (by decide +kernel)) rfl
theorem zm_L_77 : Cond.methodLink RL 77 yX7_lasts ∈ zW := zin5 (List.mem_of_getElem? (i := 125) (by decide +kernel)) rfl
theorem zm_L_81 : Cond.methodLink RL 81 yX7_net ∈ zW := zin5 (List.mem_of_getElem? (i := 129) (by decide +kernel)) rfl
theorem zq_X7_236 : Cond.constant RX7 236 (-1000000) ∈ zW := zin5 (List.mem_of_getElem? (i := 133) (by decide +kernel)) rfl
theorem zm_L_85 : Cond.methodLink RL 85 yX7_settle ∈ zW := zin5 (List.mem_of_getElem? (i := 134) (by decide +kernel)) rfl
theorem zm_L_89 : Cond.methodLink RL 89 yX7_source ∈ zW := zin5 (List.mem_of_getElem? (i := 138) (by decide +kernel)) rfl
theorem zm_X7_237 : Cond.methodLink RX7 237 yX7_sourceOf ∈ zW := zin5 (List.mem_of_getElem? (i := 142) (by decide +kernel)) rfl
theorem zm_L_93 : Cond.methodLink RL 93 yX7_rings ∈ zW := zin5 (List.mem_of_getElem? (i := 146) (by decide +kernel)) rfl
theorem zm_L_97 : Cond.methodLink RL 97 yX7_ask ∈ zW := zin5 (List.mem_of_getElem? (i := 150) (by decide +kernel)) rfl
theorem zm_L_101 : Cond.methodLink RL 101 yX7_needs ∈ zW := zin5 (List.mem_of_getElem? (i := 154) (by decide +kernel)) rfl
theorem zm_L_105 : Cond.methodLink RL 105 yX7_mercy ∈ zW := zin5 (List.mem_of_getElem? (i := 158) (by decide +kernel)) rfl
theorem zm_X7_243 : Cond.methodLink RX7 243 yX7_failsBut ∈ zW := zin5 (List.mem_of_getElem? (i := 162) (by decide +kernel)) rfl
theorem zm_X7_240 : Cond.methodLink RX7 240 yX7_ones ∈ zW := zin5 (List.mem_of_getElem? (i := 166) (by decide +kernel)) rfl
theorem zm_L_109 : Cond.methodLink RL 109 yX7_worst ∈ zW := zin5 (List.mem_of_getElem? (i := 169) (by decide +kernel)) rfl
theorem zm_L_113 : Cond.methodLink RL 113 yX7_judge ∈ zW := zin5 (List.mem_of_getElem? (i := 173) (by decide +kernel)) rfl
theorem zm_X7_249 : Cond.methodLink RX7 249 yX7_toldWrong ∈ zW := zin5 (List.mem_of_getElem? (i := 177) (by decide +kernel)) rfl
theorem zm_X7_246 : Cond.methodLink RX7 246 yX7_sheetWrong ∈ zW := zin5 (List.mem_of_getElem? (i := 181) (by decide +kernel)) rfl
theorem zm_X7_252 : Cond.methodLink RX7 252 yX7_unlike ∈ zW := zin5 (List.mem_of_getElem? (i := 185) (by decide +kernel)) rfl
theorem zm_L_117 : Cond.methodLink RL 117 yX7_kinds ∈ zW := zin5 (List.mem_of_getElem? (i := 189) (by decide +kernel)) rfl
theorem zm_L_122 : Cond.methodLink RL 122 yX7_states ∈ zW := zin5 (List.mem_of_getElem? (i := 193) (by decide +kernel)) rfl
theorem zm_L_126 : Cond.methodLink RL 126 yX7_whose ∈ zW := zin5 (List.mem_of_getElem? (i := 197) (by decide +kernel)) rfl
theorem zm_L_130 : Cond.methodLink RL 130 yX7_laws ∈ zW := zin5 (List.mem_of_getElem? (i := 201) (by decide +kernel)) rfl
theorem zm_L_134 : Cond.methodLink RL 134 yX7_film ∈ zW := zin5 (List.mem_of_getElem? (i := 205) (by decide +kernel)) rfl
theorem zm_L_138 : Cond.methodLink RL 138 yX7_drawn ∈ zW := zin5 (List.mem_of_getElem? (i := 209) (by decide +kernel)) rfl
theorem zq_X7_262 : Cond.constant RX7 262 (99999) ∈ zW := zin5 (List.mem_of_getElem? (i := 213) (by decide +kernel)) rfl
theorem zm_X7_263 : Cond.methodLink RX7 263 yX7_snows ∈ zW := zin5 (List.mem_of_getElem? (i := 214) (by decide +kernel)) rfl
theorem zq_X7_255 : Cond.constantLong RX7 255 (48271) ∈ zW := zin5 (List.mem_of_getElem? (i := 218) (by decide +kernel)) rfl
theorem zq_X7_257 : Cond.constantLong RX7 257 (2147483647) ∈ zW := zin5 (List.mem_of_getElem? (i := 219) (by decide +kernel)) rfl
theorem zm_L_143 : Cond.methodLink RL 143 yX7_odds ∈ zW := zin5 (List.mem_of_getElem? (i := 220) (by decide +kernel)) rfl
theorem zq_X7_266 : Cond.constantLong RX7 266 (-4611686018427387904) ∈ zW := zin5 (List.mem_of_getElem? (i := 224) (by decide +kernel)) rfl
theorem zm_X7_268 : Cond.methodLink RX7 268 yX7_lowest ∈ zW := zin5 (List.mem_of_getElem? (i := 225) (by decide +kernel)) rfl
theorem zm_L_147 : Cond.methodLink RL 147 yX7_image ∈ zW := zin5 (List.mem_of_getElem? (i := 228) (by decide +kernel)) rfl
theorem zm_L_151 : Cond.methodLink RL 151 yX7_back ∈ zW := zin5 (List.mem_of_getElem? (i := 232) (by decide +kernel)) rfl
theorem zm_L_155 : Cond.methodLink RL 155 yX7_sheet ∈ zW := zin5 (List.mem_of_getElem? (i := 236) (by decide +kernel)) rfl
theorem zm_L_159 : Cond.methodLink RL 159 yX7_cell ∈ zW := zin6 (List.mem_of_getElem? (i := 0) (by decide +kernel)) rfl
theorem zm_L_164 : Cond.methodLink RL 164 yX7_copy ∈ zW := zin6 (List.mem_of_getElem? (i := 4) (by decide +kernel)) rfl
theorem zm_L_168 : Cond.methodLink RL 168 yX7_hutsBy ∈ zW := zin6 (List.mem_of_getElem? (i := 8) (by decide +kernel)) rfl
theorem zm_X7_276 : Cond.methodLink RX7 276 yX7_hut ∈ zW := zin6 (List.mem_of_getElem? (i := 12) (by decide +kernel)) rfl
theorem zm_L_172 : Cond.methodLink RL 172 yX7_taken ∈ zW := zin6 (List.mem_of_getElem? (i := 13) (by decide +kernel)) rfl
theorem zm_X7_279 : Cond.methodLink RX7 279 yX7_isUnder ∈ zW := zin6 (List.mem_of_getElem? (i := 17) (by decide +kernel)) rfl
theorem zw_copy1 : Cond.native arraycopyName ∈ zW := zin2 (List.mem_of_getElem? (i := 8) (by decide +kernel)) rfl
theorem zw_copy2 : Cond.static arraycopyName ∈ zW := zin2 (List.mem_of_getElem? (i := 7) (by decide +kernel)) rfl
theorem zw_sys : Cond.initialized "java/lang/System" ∈ zW := zin1 (List.mem_of_getElem? (i := 9) (by decide +kernel)) rfl
theorem zw_math : Cond.initialized "java/lang/Math" ∈ zW := zin1 (List.mem_of_getElem? (i := 13) (by decide +kernel)) rfl
theorem zw_min1 : Cond.static Lib.Math.min.name ∈ zW := zin2 (List.mem_of_getElem? (i := 184) (by decide +kernel)) rfl
theorem zw_min2 : Cond.code Lib.Math.min.name Lib.Math.min.code 2 (some .int) ∈ zW := zin2 (List.mem_of_getElem? (i := 185) (by decide +kernel)) rfl
theorem zw_max1 : Cond.static Lib.Math.max.name ∈ zW := zin2 (List.mem_of_getElem? (i := 187) (by decide +kernel)) rfl
theorem zw_max2 : Cond.code Lib.Math.max.name Lib.Math.max.code 2 (some .int) ∈ zW := zin2 (List.mem_of_getElem? (i := 188) (by decide +kernel)) rfl
theorem zw_oi : Cond.instanceMethod Lib.objectInit ∈ zW := zin1 (List.mem_of_getElem? (i := 22) (by decide +kernel)) rfl
theorem zw_oc : Cond.code Lib.objectInit ⟨#[0xb1]⟩ 1 none ∈ zW := zin1 (List.mem_of_getElem? (i := 23) (by decide +kernel)) rfl
theorem zw_arr : Cond.arrayClass .int ∈ zW := zin1 (List.mem_of_getElem? (i := 44) (by decide +kernel)) rfl
theorem zlay_X2_0 : u_lay RX2 TX2 0 ∈ zW := zin1 (List.mem_of_getElem? (i := 64) (by decide +kernel)) rfl
theorem zlay_X2_1 : u_lay RX2 TX2 1 ∈ zW := zin1 (List.mem_of_getElem? (i := 66) (by decide +kernel)) rfl
theorem zlay_X2_2 : u_lay RX2 TX2 2 ∈ zW := zin1 (List.mem_of_getElem? (i := 68) (by decide +kernel)) rfl
theorem zlay_X2_3 : u_lay RX2 TX2 3 ∈ zW := zin1 (List.mem_of_getElem? (i := 70) (by decide +kernel)) rfl
theorem zlay_X2_4 : u_lay RX2 TX2 4 ∈ zW := zin1 (List.mem_of_getElem? (i := 72) (by decide +kernel)) rfl
theorem zlay_X2_5 : u_lay RX2 TX2 5 ∈ zW := zin1 (List.mem_of_getElem? (i := 74) (by decide +kernel)) rfl
theorem zlay_X2_6 : u_lay RX2 TX2 6 ∈ zW := zin1 (List.mem_of_getElem? (i := 76) (by decide +kernel)) rfl
theorem zlay_X2_7 : u_lay RX2 TX2 7 ∈ zW := zin1 (List.mem_of_getElem? (i := 78) (by decide +kernel)) rfl
theorem zlay_X2_8 : u_lay RX2 TX2 8 ∈ zW := zin1 (List.mem_of_getElem? (i := 80) (by decide +kernel)) rfl
theorem zlay_X2_9 : u_lay RX2 TX2 9 ∈ zW := zin1 (List.mem_of_getElem? (i := 82) (by decide +kernel)) rfl
theorem zinw_X2 : ∀ w ∈ u_ws RX2 TX2 10, w ∈ zW := fun w hw => by
  obtain ⟨k, hk, rfl⟩ := List.mem_map.mp hw
  have hk := List.mem_range.mp hk
  match k, hk with
  | 0, _ => exact zlay_X2_0
  | 1, _ => exact zlay_X2_1
  | 2, _ => exact zlay_X2_2
  | 3, _ => exact zlay_X2_3
  | 4, _ => exact zlay_X2_4
  | 5, _ => exact zlay_X2_5
  | 6, _ => exact zlay_X2_6
  | 7, _ => exact zlay_X2_7
  | 8, _ => exact zlay_X2_8
  | 9, _ => exact zlay_X2_9
  | k + 10, hk => omega
theorem zlay_X3_0 : u_lay RX3 TX3 0 ∈ zW := zin2 (List.mem_of_getElem? (i := 87) (by decide +kernel)) rfl
theorem zlay_X3_1 : u_lay RX3 TX3 1 ∈ zW := zin2 (List.mem_of_getElem? (i := 89) (by decide +kernel)) rfl
theorem zlay_X3_2 : u_lay RX3 TX3 2 ∈ zW := zin2 (List.mem_of_getElem? (i := 91) (by decide +kernel)) rfl
theorem zinw_X3 : ∀ w ∈ u_ws RX3 TX3 3, w ∈ zW := fun w hw => by
  obtain ⟨k, hk, rfl⟩ := List.mem_map.mp hw
  have hk := List.mem_range.mp hk
  match k, hk with
  | 0, _ => exact zlay_X3_0
  | 1, _ => exact zlay_X3_1
  | 2, _ => exact zlay_X3_2
  | k + 3, hk => omega
theorem zlay_X4_0 : u_lay RX4 TX4 0 ∈ zW := zin1 (List.mem_of_getElem? (i := 35) (by decide +kernel)) rfl
theorem zlay_X4_1 : u_lay RX4 TX4 1 ∈ zW := zin1 (List.mem_of_getElem? (i := 37) (by decide +kernel)) rfl
theorem zlay_X4_2 : u_lay RX4 TX4 2 ∈ zW := zin1 (List.mem_of_getElem? (i := 39) (by decide +kernel)) rfl
theorem zlay_X4_3 : u_lay RX4 TX4 3 ∈ zW := zin1 (List.mem_of_getElem? (i := 41) (by decide +kernel)) rfl
theorem zinw_X4 : ∀ w ∈ u_ws RX4 TX4 4, w ∈ zW := fun w hw => by
  obtain ⟨k, hk, rfl⟩ := List.mem_map.mp hw
  have hk := List.mem_range.mp hk
  match k, hk with
  | 0, _ => exact zlay_X4_0
  | 1, _ => exact zlay_X4_1
  | 2, _ => exact zlay_X4_2
  | 3, _ => exact zlay_X4_3
  | k + 4, hk => omega
theorem zlay_X5_0 : u_lay RX5 TX5 0 ∈ zW := zin2 (List.mem_of_getElem? (i := 46) (by decide +kernel)) rfl
theorem zlay_X5_1 : u_lay RX5 TX5 1 ∈ zW := zin2 (List.mem_of_getElem? (i := 48) (by decide +kernel)) rfl
theorem zlay_X5_2 : u_lay RX5 TX5 2 ∈ zW := zin2 (List.mem_of_getElem? (i := 50) (by decide +kernel)) rfl
theorem zlay_X5_3 : u_lay RX5 TX5 3 ∈ zW := zin2 (List.mem_of_getElem? (i := 52) (by decide +kernel)) rfl
theorem zlay_X5_4 : u_lay RX5 TX5 4 ∈ zW := zin2 (List.mem_of_getElem? (i := 54) (by decide +kernel)) rfl
theorem zlay_X5_5 : u_lay RX5 TX5 5 ∈ zW := zin2 (List.mem_of_getElem? (i := 56) (by decide +kernel)) rfl
theorem zlay_X5_6 : u_lay RX5 TX5 6 ∈ zW := zin2 (List.mem_of_getElem? (i := 58) (by decide +kernel)) rfl
theorem zlay_X5_7 : u_lay RX5 TX5 7 ∈ zW := zin2 (List.mem_of_getElem? (i := 60) (by decide +kernel)) rfl
theorem zlay_X5_8 : u_lay RX5 TX5 8 ∈ zW := zin2 (List.mem_of_getElem? (i := 62) (by decide +kernel)) rfl
theorem zlay_X5_9 : u_lay RX5 TX5 9 ∈ zW := zin2 (List.mem_of_getElem? (i := 64) (by decide +kernel)) rfl
theorem zlay_X5_10 : u_lay RX5 TX5 10 ∈ zW := zin2 (List.mem_of_getElem? (i := 66) (by decide +kernel)) rfl
theorem zlay_X5_11 : u_lay RX5 TX5 11 ∈ zW := zin2 (List.mem_of_getElem? (i := 68) (by decide +kernel)) rfl
theorem zlay_X5_12 : u_lay RX5 TX5 12 ∈ zW := zin2 (List.mem_of_getElem? (i := 70) (by decide +kernel)) rfl
theorem zlay_X5_13 : u_lay RX5 TX5 13 ∈ zW := zin2 (List.mem_of_getElem? (i := 72) (by decide +kernel)) rfl
theorem zlay_X5_14 : u_lay RX5 TX5 14 ∈ zW := zin2 (List.mem_of_getElem? (i := 74) (by decide +kernel)) rfl
theorem zinw_X5 : ∀ w ∈ u_ws RX5 TX5 15, w ∈ zW := fun w hw => by
  obtain ⟨k, hk, rfl⟩ := List.mem_map.mp hw
  have hk := List.mem_range.mp hk
  match k, hk with
  | 0, _ => exact zlay_X5_0
  | 1, _ => exact zlay_X5_1
  | 2, _ => exact zlay_X5_2
  | 3, _ => exact zlay_X5_3
  | 4, _ => exact zlay_X5_4
  | 5, _ => exact zlay_X5_5
  | 6, _ => exact zlay_X5_6
  | 7, _ => exact zlay_X5_7
  | 8, _ => exact zlay_X5_8
  | 9, _ => exact zlay_X5_9
  | 10, _ => exact zlay_X5_10
  | 11, _ => exact zlay_X5_11
  | 12, _ => exact zlay_X5_12
  | 13, _ => exact zlay_X5_13
  | 14, _ => exact zlay_X5_14
  | k + 15, hk => omega
theorem zlay_X6_0 : u_lay RX6 TX6 0 ∈ zW := zin2 (List.mem_of_getElem? (i := 102) (by decide +kernel)) rfl
theorem zlay_X6_1 : u_lay RX6 TX6 1 ∈ zW := zin2 (List.mem_of_getElem? (i := 104) (by decide +kernel)) rfl
theorem zlay_X6_2 : u_lay RX6 TX6 2 ∈ zW := zin2 (List.mem_of_getElem? (i := 106) (by decide +kernel)) rfl
theorem zlay_X6_3 : u_lay RX6 TX6 3 ∈ zW := zin2 (List.mem_of_getElem? (i := 108) (by decide +kernel)) rfl
theorem zlay_X6_4 : u_lay RX6 TX6 4 ∈ zW := zin2 (List.mem_of_getElem? (i := 110) (by decide +kernel)) rfl
theorem zlay_X6_5 : u_lay RX6 TX6 5 ∈ zW := zin2 (List.mem_of_getElem? (i := 112) (by decide +kernel)) rfl
theorem zlay_X6_6 : u_lay RX6 TX6 6 ∈ zW := zin2 (List.mem_of_getElem? (i := 114) (by decide +kernel)) rfl
theorem zlay_X6_7 : u_lay RX6 TX6 7 ∈ zW := zin2 (List.mem_of_getElem? (i := 116) (by decide +kernel)) rfl
theorem zinw_X6 : ∀ w ∈ u_ws RX6 TX6 8, w ∈ zW := fun w hw => by
  obtain ⟨k, hk, rfl⟩ := List.mem_map.mp hw
  have hk := List.mem_range.mp hk
  match k, hk with
  | 0, _ => exact zlay_X6_0
  | 1, _ => exact zlay_X6_1
  | 2, _ => exact zlay_X6_2
  | 3, _ => exact zlay_X6_3
  | 4, _ => exact zlay_X6_4
  | 5, _ => exact zlay_X6_5
  | 6, _ => exact zlay_X6_6
  | 7, _ => exact zlay_X6_7
  | k + 8, hk => omega
theorem zlay_X7_0 : u_lay RX7 TX7 0 ∈ zW := zin4 (List.mem_of_getElem? (i := 144) (by decide +kernel)) rfl
theorem zlay_X7_1 : u_lay RX7 TX7 1 ∈ zW := zin4 (List.mem_of_getElem? (i := 146) (by decide +kernel)) rfl
theorem zlay_X7_2 : u_lay RX7 TX7 2 ∈ zW := zin4 (List.mem_of_getElem? (i := 148) (by decide +kernel)) rfl
theorem zlay_X7_3 : u_lay RX7 TX7 3 ∈ zW := zin4 (List.mem_of_getElem? (i := 150) (by decide +kernel)) rfl
theorem zlay_X7_4 : u_lay RX7 TX7 4 ∈ zW := zin4 (List.mem_of_getElem? (i := 152) (by decide +kernel)) rfl
theorem zlay_X7_5 : u_lay RX7 TX7 5 ∈ zW := zin4 (List.mem_of_getElem? (i := 154) (by decide +kernel)) rfl
theorem zlay_X7_6 : u_lay RX7 TX7 6 ∈ zW := zin4 (List.mem_of_getElem? (i := 156) (by decide +kernel)) rfl
theorem zlay_X7_7 : u_lay RX7 TX7 7 ∈ zW := zin4 (List.mem_of_getElem? (i := 158) (by decide +kernel)) rfl
theorem zlay_X7_8 : u_lay RX7 TX7 8 ∈ zW := zin4 (List.mem_of_getElem? (i := 160) (by decide +kernel)) rfl
theorem zlay_X7_9 : u_lay RX7 TX7 9 ∈ zW := zin4 (List.mem_of_getElem? (i := 162) (by decide +kernel)) rfl
theorem zlay_X7_10 : u_lay RX7 TX7 10 ∈ zW := zin4 (List.mem_of_getElem? (i := 164) (by decide +kernel)) rfl
theorem zlay_X7_11 : u_lay RX7 TX7 11 ∈ zW := zin4 (List.mem_of_getElem? (i := 166) (by decide +kernel)) rfl
theorem zlay_X7_12 : u_lay RX7 TX7 12 ∈ zW := zin4 (List.mem_of_getElem? (i := 168) (by decide +kernel)) rfl
theorem zlay_X7_13 : u_lay RX7 TX7 13 ∈ zW := zin4 (List.mem_of_getElem? (i := 170) (by decide +kernel)) rfl
theorem zlay_X7_14 : u_lay RX7 TX7 14 ∈ zW := zin4 (List.mem_of_getElem? (i := 172) (by decide +kernel)) rfl
theorem zlay_X7_15 : u_lay RX7 TX7 15 ∈ zW := zin4 (List.mem_of_getElem? (i := 174) (by decide +kernel)) rfl
theorem zlay_X7_16 : u_lay RX7 TX7 16 ∈ zW := zin4 (List.mem_of_getElem? (i := 176) (by decide +kernel)) rfl
theorem zlay_X7_17 : u_lay RX7 TX7 17 ∈ zW := zin4 (List.mem_of_getElem? (i := 178) (by decide +kernel)) rfl
theorem zlay_X7_18 : u_lay RX7 TX7 18 ∈ zW := zin4 (List.mem_of_getElem? (i := 180) (by decide +kernel)) rfl
theorem zlay_X7_19 : u_lay RX7 TX7 19 ∈ zW := zin4 (List.mem_of_getElem? (i := 182) (by decide +kernel)) rfl
theorem zlay_X7_20 : u_lay RX7 TX7 20 ∈ zW := zin4 (List.mem_of_getElem? (i := 184) (by decide +kernel)) rfl
theorem zlay_X7_21 : u_lay RX7 TX7 21 ∈ zW := zin4 (List.mem_of_getElem? (i := 186) (by decide +kernel)) rfl
theorem zlay_X7_22 : u_lay RX7 TX7 22 ∈ zW := zin4 (List.mem_of_getElem? (i := 188) (by decide +kernel)) rfl
theorem zlay_X7_23 : u_lay RX7 TX7 23 ∈ zW := zin4 (List.mem_of_getElem? (i := 190) (by decide +kernel)) rfl
theorem zlay_X7_24 : u_lay RX7 TX7 24 ∈ zW := zin4 (List.mem_of_getElem? (i := 192) (by decide +kernel)) rfl
theorem zlay_X7_25 : u_lay RX7 TX7 25 ∈ zW := zin4 (List.mem_of_getElem? (i := 194) (by decide +kernel)) rfl
theorem zlay_X7_26 : u_lay RX7 TX7 26 ∈ zW := zin4 (List.mem_of_getElem? (i := 196) (by decide +kernel)) rfl
theorem zlay_X7_27 : u_lay RX7 TX7 27 ∈ zW := zin4 (List.mem_of_getElem? (i := 198) (by decide +kernel)) rfl
theorem zlay_X7_28 : u_lay RX7 TX7 28 ∈ zW := zin4 (List.mem_of_getElem? (i := 200) (by decide +kernel)) rfl
theorem zlay_X7_29 : u_lay RX7 TX7 29 ∈ zW := zin4 (List.mem_of_getElem? (i := 202) (by decide +kernel)) rfl
theorem zlay_X7_30 : u_lay RX7 TX7 30 ∈ zW := zin4 (List.mem_of_getElem? (i := 204) (by decide +kernel)) rfl
theorem zlay_X7_31 : u_lay RX7 TX7 31 ∈ zW := zin4 (List.mem_of_getElem? (i := 206) (by decide +kernel)) rfl
theorem zlay_X7_32 : u_lay RX7 TX7 32 ∈ zW := zin4 (List.mem_of_getElem? (i := 208) (by decide +kernel)) rfl
theorem zlay_X7_33 : u_lay RX7 TX7 33 ∈ zW := zin4 (List.mem_of_getElem? (i := 210) (by decide +kernel)) rfl
theorem zlay_X7_34 : u_lay RX7 TX7 34 ∈ zW := zin4 (List.mem_of_getElem? (i := 212) (by decide +kernel)) rfl
theorem zlay_X7_35 : u_lay RX7 TX7 35 ∈ zW := zin4 (List.mem_of_getElem? (i := 214) (by decide +kernel)) rfl
theorem zlay_X7_36 : u_lay RX7 TX7 36 ∈ zW := zin4 (List.mem_of_getElem? (i := 216) (by decide +kernel)) rfl
theorem zinw_X7 : ∀ w ∈ u_ws RX7 TX7 37, w ∈ zW := fun w hw => by
  obtain ⟨k, hk, rfl⟩ := List.mem_map.mp hw
  have hk := List.mem_range.mp hk
  match k, hk with
  | 0, _ => exact zlay_X7_0
  | 1, _ => exact zlay_X7_1
  | 2, _ => exact zlay_X7_2
  | 3, _ => exact zlay_X7_3
  | 4, _ => exact zlay_X7_4
  | 5, _ => exact zlay_X7_5
  | 6, _ => exact zlay_X7_6
  | 7, _ => exact zlay_X7_7
  | 8, _ => exact zlay_X7_8
  | 9, _ => exact zlay_X7_9
  | 10, _ => exact zlay_X7_10
  | 11, _ => exact zlay_X7_11
  | 12, _ => exact zlay_X7_12
  | 13, _ => exact zlay_X7_13
  | 14, _ => exact zlay_X7_14
  | 15, _ => exact zlay_X7_15
  | 16, _ => exact zlay_X7_16
  | 17, _ => exact zlay_X7_17
  | 18, _ => exact zlay_X7_18
  | 19, _ => exact zlay_X7_19
  | 20, _ => exact zlay_X7_20
  | 21, _ => exact zlay_X7_21
  | 22, _ => exact zlay_X7_22
  | 23, _ => exact zlay_X7_23
  | 24, _ => exact zlay_X7_24
  | 25, _ => exact zlay_X7_25
  | 26, _ => exact zlay_X7_26
  | 27, _ => exact zlay_X7_27
  | 28, _ => exact zlay_X7_28
  | 29, _ => exact zlay_X7_29
  | 30, _ => exact zlay_X7_30
  | 31, _ => exact zlay_X7_31
  | 32, _ => exact zlay_X7_32
  | 33, _ => exact zlay_X7_33
  | 34, _ => exact zlay_X7_34
  | 35, _ => exact zlay_X7_35
  | 36, _ => exact zlay_X7_36
  | k + 37, hk => omega
theorem zf_X4_9 : zFld RX4 9 2 0 true (.array .int) := ⟨RX4, TX4, 4, tyX4, rfl, by decide, zin1 (List.mem_of_getElem? (i := 30) (by decide +kernel)) rfl, zinw_X4, tyX4_ok, nmX4, rfl, rfl⟩
theorem zf_X4_15 : zFld RX4 15 2 1 true (.array .int) := ⟨RX4, TX4, 4, tyX4, rfl, by decide, zin1 (List.mem_of_getElem? (i := 31) (by decide +kernel)) rfl, zinw_X4, tyX4_ok, nmX4, rfl, rfl⟩
theorem zf_X4_18 : zFld RX4 18 2 2 true (.array .int) := ⟨RX4, TX4, 4, tyX4, rfl, by decide, zin1 (List.mem_of_getElem? (i := 32) (by decide +kernel)) rfl, zinw_X4, tyX4_ok, nmX4, rfl, rfl⟩
theorem zf_X4_21 : zFld RX4 21 2 3 false .int := ⟨RX4, TX4, 4, tyX4, rfl, by decide, zin1 (List.mem_of_getElem? (i := 33) (by decide +kernel)) rfl, zinw_X4, tyX4_ok, nmX4, rfl, rfl⟩
theorem zf_X6_92 : zFld RX6 92 2 3 false .int := ⟨RX4, TX4, 4, tyX4, rfl, by decide, zin1 (List.mem_of_getElem? (i := 34) (by decide +kernel)) rfl, zinw_X4, tyX4_ok, nmX4, rfl, rfl⟩
theorem zf_X2_9 : zFld RX2 9 0 0 true (.array .int) := ⟨RX2, TX2, 10, tyX2, rfl, by decide, zin1 (List.mem_of_getElem? (i := 51) (by decide +kernel)) rfl, zinw_X2, tyX2_ok, nmX2, rfl, rfl⟩
theorem zf_X2_21 : zFld RX2 21 0 1 false .int := ⟨RX2, TX2, 10, tyX2, rfl, by decide, zin1 (List.mem_of_getElem? (i := 52) (by decide +kernel)) rfl, zinw_X2, tyX2_ok, nmX2, rfl, rfl⟩
theorem zf_X6_98 : zFld RX6 98 0 1 false .int := ⟨RX2, TX2, 10, tyX2, rfl, by decide, zin1 (List.mem_of_getElem? (i := 53) (by decide +kernel)) rfl, zinw_X2, tyX2_ok, nmX2, rfl, rfl⟩
theorem zf_X2_15 : zFld RX2 15 0 2 true (.array .int) := ⟨RX2, TX2, 10, tyX2, rfl, by decide, zin1 (List.mem_of_getElem? (i := 54) (by decide +kernel)) rfl, zinw_X2, tyX2_ok, nmX2, rfl, rfl⟩
theorem zf_X4_25 : zFld RX4 25 0 2 true (.array .int) := ⟨RX2, TX2, 10, tyX2, rfl, by decide, zin1 (List.mem_of_getElem? (i := 55) (by decide +kernel)) rfl, zinw_X2, tyX2_ok, nmX2, rfl, rfl⟩
theorem zf_X2_28 : zFld RX2 28 0 3 false .int := ⟨RX2, TX2, 10, tyX2, rfl, by decide, zin1 (List.mem_of_getElem? (i := 56) (by decide +kernel)) rfl, zinw_X2, tyX2_ok, nmX2, rfl, rfl⟩
theorem zf_X2_18 : zFld RX2 18 0 4 true (.array .int) := ⟨RX2, TX2, 10, tyX2, rfl, by decide, zin1 (List.mem_of_getElem? (i := 57) (by decide +kernel)) rfl, zinw_X2, tyX2_ok, nmX2, rfl, rfl⟩
theorem zf_X4_34 : zFld RX4 34 0 4 true (.array .int) := ⟨RX2, TX2, 10, tyX2, rfl, by decide, zin1 (List.mem_of_getElem? (i := 58) (by decide +kernel)) rfl, zinw_X2, tyX2_ok, nmX2, rfl, rfl⟩
theorem zf_X2_25 : zFld RX2 25 0 5 false .int := ⟨RX2, TX2, 10, tyX2, rfl, by decide, zin1 (List.mem_of_getElem? (i := 59) (by decide +kernel)) rfl, zinw_X2, tyX2_ok, nmX2, rfl, rfl⟩
theorem zf_X2_50 : zFld RX2 50 0 6 false .int := ⟨RX2, TX2, 10, tyX2, rfl, by decide, zin1 (List.mem_of_getElem? (i := 60) (by decide +kernel)) rfl, zinw_X2, tyX2_ok, nmX2, rfl, rfl⟩
theorem zf_X2_44 : zFld RX2 44 0 7 false .int := ⟨RX2, TX2, 10, tyX2, rfl, by decide, zin1 (List.mem_of_getElem? (i := 61) (by decide +kernel)) rfl, zinw_X2, tyX2_ok, nmX2, rfl, rfl⟩
theorem zf_X2_77 : zFld RX2 77 0 8 false .int := ⟨RX2, TX2, 10, tyX2, rfl, by decide, zin1 (List.mem_of_getElem? (i := 62) (by decide +kernel)) rfl, zinw_X2, tyX2_ok, nmX2, rfl, rfl⟩
theorem zf_X2_31 : zFld RX2 31 0 9 false .int := ⟨RX2, TX2, 10, tyX2, rfl, by decide, zin1 (List.mem_of_getElem? (i := 63) (by decide +kernel)) rfl, zinw_X2, tyX2_ok, nmX2, rfl, rfl⟩
theorem zfJ_J0_38 : Cond.fieldLink RJ0 38 "java/lang/String" "COMPACT_STRINGS" "Z" ∈ zW := zin1 (List.mem_of_getElem? (i := 94) (by decide +kernel)) rfl
theorem zfJ_J0_1053 : Cond.fieldLink RJ0 1053 "jdk/internal/util/Preconditions" "SIOOBE_FORMATTER" "Ljava/util/function/BiFunction;" ∈ zW := zin1 (List.mem_of_getElem? (i := 110) (by decide +kernel)) rfl
theorem zfJ_J2_44 : Cond.fieldLink RJ2 44 "java/lang/StringUTF16" "$assertionsDisabled" "Z" ∈ zW := zin1 (List.mem_of_getElem? (i := 128) (by decide +kernel)) rfl
theorem zfJ_J2_59 : Cond.fieldLink RJ2 59 "java/lang/StringUTF16" "HI_BYTE_SHIFT" "I" ∈ zW := zin1 (List.mem_of_getElem? (i := 130) (by decide +kernel)) rfl
theorem zfJ_J2_63 : Cond.fieldLink RJ2 63 "java/lang/StringUTF16" "LO_BYTE_SHIFT" "I" ∈ zW := zin1 (List.mem_of_getElem? (i := 132) (by decide +kernel)) rfl
theorem zf_X5_9 : zFld RX5 9 3 0 true (.array .int) := ⟨RX5, TX5, 15, tyX5, rfl, by decide, zin2 (List.mem_of_getElem? (i := 19) (by decide +kernel)) rfl, zinw_X5, tyX5_ok, nmX5, rfl, rfl⟩
theorem zf_X6_188 : zFld RX6 188 3 0 true (.array .int) := ⟨RX5, TX5, 15, tyX5, rfl, by decide, zin2 (List.mem_of_getElem? (i := 20) (by decide +kernel)) rfl, zinw_X5, tyX5_ok, nmX5, rfl, rfl⟩
theorem zf_X5_15 : zFld RX5 15 3 1 true (.array .int) := ⟨RX5, TX5, 15, tyX5, rfl, by decide, zin2 (List.mem_of_getElem? (i := 21) (by decide +kernel)) rfl, zinw_X5, tyX5_ok, nmX5, rfl, rfl⟩
theorem zf_X6_218 : zFld RX6 218 3 1 true (.array .int) := ⟨RX5, TX5, 15, tyX5, rfl, by decide, zin2 (List.mem_of_getElem? (i := 22) (by decide +kernel)) rfl, zinw_X5, tyX5_ok, nmX5, rfl, rfl⟩
theorem zf_X5_18 : zFld RX5 18 3 2 true (.array .int) := ⟨RX5, TX5, 15, tyX5, rfl, by decide, zin2 (List.mem_of_getElem? (i := 23) (by decide +kernel)) rfl, zinw_X5, tyX5_ok, nmX5, rfl, rfl⟩
theorem zf_X5_21 : zFld RX5 21 3 3 true (.array .int) := ⟨RX5, TX5, 15, tyX5, rfl, by decide, zin2 (List.mem_of_getElem? (i := 24) (by decide +kernel)) rfl, zinw_X5, tyX5_ok, nmX5, rfl, rfl⟩
theorem zf_X6_131 : zFld RX6 131 3 3 true (.array .int) := ⟨RX5, TX5, 15, tyX5, rfl, by decide, zin2 (List.mem_of_getElem? (i := 25) (by decide +kernel)) rfl, zinw_X5, tyX5_ok, nmX5, rfl, rfl⟩
theorem zf_X5_24 : zFld RX5 24 3 4 true (.array .int) := ⟨RX5, TX5, 15, tyX5, rfl, by decide, zin2 (List.mem_of_getElem? (i := 26) (by decide +kernel)) rfl, zinw_X5, tyX5_ok, nmX5, rfl, rfl⟩
theorem zf_X6_134 : zFld RX6 134 3 4 true (.array .int) := ⟨RX5, TX5, 15, tyX5, rfl, by decide, zin2 (List.mem_of_getElem? (i := 27) (by decide +kernel)) rfl, zinw_X5, tyX5_ok, nmX5, rfl, rfl⟩
theorem zf_X5_27 : zFld RX5 27 3 5 true (.array .int) := ⟨RX5, TX5, 15, tyX5, rfl, by decide, zin2 (List.mem_of_getElem? (i := 28) (by decide +kernel)) rfl, zinw_X5, tyX5_ok, nmX5, rfl, rfl⟩
theorem zf_X6_157 : zFld RX6 157 3 5 true (.array .int) := ⟨RX5, TX5, 15, tyX5, rfl, by decide, zin2 (List.mem_of_getElem? (i := 29) (by decide +kernel)) rfl, zinw_X5, tyX5_ok, nmX5, rfl, rfl⟩
theorem zf_X5_30 : zFld RX5 30 3 6 true (.array .int) := ⟨RX5, TX5, 15, tyX5, rfl, by decide, zin2 (List.mem_of_getElem? (i := 30) (by decide +kernel)) rfl, zinw_X5, tyX5_ok, nmX5, rfl, rfl⟩
theorem zf_X6_160 : zFld RX6 160 3 6 true (.array .int) := ⟨RX5, TX5, 15, tyX5, rfl, by decide, zin2 (List.mem_of_getElem? (i := 31) (by decide +kernel)) rfl, zinw_X5, tyX5_ok, nmX5, rfl, rfl⟩
theorem zf_X5_33 : zFld RX5 33 3 7 true (.array .int) := ⟨RX5, TX5, 15, tyX5, rfl, by decide, zin2 (List.mem_of_getElem? (i := 32) (by decide +kernel)) rfl, zinw_X5, tyX5_ok, nmX5, rfl, rfl⟩
theorem zf_X6_163 : zFld RX6 163 3 7 true (.array .int) := ⟨RX5, TX5, 15, tyX5, rfl, by decide, zin2 (List.mem_of_getElem? (i := 33) (by decide +kernel)) rfl, zinw_X5, tyX5_ok, nmX5, rfl, rfl⟩
theorem zf_X5_36 : zFld RX5 36 3 8 true (.array .int) := ⟨RX5, TX5, 15, tyX5, rfl, by decide, zin2 (List.mem_of_getElem? (i := 34) (by decide +kernel)) rfl, zinw_X5, tyX5_ok, nmX5, rfl, rfl⟩
theorem zf_X6_166 : zFld RX6 166 3 8 true (.array .int) := ⟨RX5, TX5, 15, tyX5, rfl, by decide, zin2 (List.mem_of_getElem? (i := 35) (by decide +kernel)) rfl, zinw_X5, tyX5_ok, nmX5, rfl, rfl⟩
theorem zf_X6_79 : zFld RX6 79 3 9 false .int := ⟨RX5, TX5, 15, tyX5, rfl, by decide, zin2 (List.mem_of_getElem? (i := 36) (by decide +kernel)) rfl, zinw_X5, tyX5_ok, nmX5, rfl, rfl⟩
theorem zf_X5_54 : zFld RX5 54 3 9 false .int := ⟨RX5, TX5, 15, tyX5, rfl, by decide, zin2 (List.mem_of_getElem? (i := 37) (by decide +kernel)) rfl, zinw_X5, tyX5_ok, nmX5, rfl, rfl⟩
theorem zf_X6_83 : zFld RX6 83 3 10 false .int := ⟨RX5, TX5, 15, tyX5, rfl, by decide, zin2 (List.mem_of_getElem? (i := 38) (by decide +kernel)) rfl, zinw_X5, tyX5_ok, nmX5, rfl, rfl⟩
theorem zf_X5_58 : zFld RX5 58 3 10 false .int := ⟨RX5, TX5, 15, tyX5, rfl, by decide, zin2 (List.mem_of_getElem? (i := 39) (by decide +kernel)) rfl, zinw_X5, tyX5_ok, nmX5, rfl, rfl⟩
theorem zf_X6_86 : zFld RX6 86 3 11 false .int := ⟨RX5, TX5, 15, tyX5, rfl, by decide, zin2 (List.mem_of_getElem? (i := 40) (by decide +kernel)) rfl, zinw_X5, tyX5_ok, nmX5, rfl, rfl⟩
theorem zf_X5_61 : zFld RX5 61 3 11 false .int := ⟨RX5, TX5, 15, tyX5, rfl, by decide, zin2 (List.mem_of_getElem? (i := 41) (by decide +kernel)) rfl, zinw_X5, tyX5_ok, nmX5, rfl, rfl⟩
theorem zf_X6_95 : zFld RX6 95 3 12 false .int := ⟨RX5, TX5, 15, tyX5, rfl, by decide, zin2 (List.mem_of_getElem? (i := 42) (by decide +kernel)) rfl, zinw_X5, tyX5_ok, nmX5, rfl, rfl⟩
theorem zf_X5_64 : zFld RX5 64 3 12 false .int := ⟨RX5, TX5, 15, tyX5, rfl, by decide, zin2 (List.mem_of_getElem? (i := 43) (by decide +kernel)) rfl, zinw_X5, tyX5_ok, nmX5, rfl, rfl⟩
theorem zf_X5_44 : zFld RX5 44 3 13 true (.object "CoalIsLent$Texts") := ⟨RX5, TX5, 15, tyX5, rfl, by decide, zin2 (List.mem_of_getElem? (i := 44) (by decide +kernel)) rfl, zinw_X5, tyX5_ok, nmX5, rfl, rfl⟩
theorem zf_X5_41 : zFld RX5 41 3 14 true (.array .int) := ⟨RX5, TX5, 15, tyX5, rfl, by decide, zin2 (List.mem_of_getElem? (i := 45) (by decide +kernel)) rfl, zinw_X5, tyX5_ok, nmX5, rfl, rfl⟩
theorem zf_X3_9 : zFld RX3 9 1 0 true (.array .int) := ⟨RX3, TX3, 3, tyX3, rfl, by decide, zin2 (List.mem_of_getElem? (i := 84) (by decide +kernel)) rfl, zinw_X3, tyX3_ok, nmX3, rfl, rfl⟩
theorem zf_X3_13 : zFld RX3 13 1 1 true (.array .int) := ⟨RX3, TX3, 3, tyX3, rfl, by decide, zin2 (List.mem_of_getElem? (i := 85) (by decide +kernel)) rfl, zinw_X3, tyX3_ok, nmX3, rfl, rfl⟩
theorem zf_X3_16 : zFld RX3 16 1 2 true (.array .int) := ⟨RX3, TX3, 3, tyX3, rfl, by decide, zin2 (List.mem_of_getElem? (i := 86) (by decide +kernel)) rfl, zinw_X3, tyX3_ok, nmX3, rfl, rfl⟩
theorem zf_X6_10 : zFld RX6 10 4 0 true (.object "CoalIsLent$Texts") := ⟨RX6, TX6, 8, tyX6, rfl, by decide, zin2 (List.mem_of_getElem? (i := 94) (by decide +kernel)) rfl, zinw_X6, tyX6_ok, nmX6, rfl, rfl⟩
theorem zf_X6_19 : zFld RX6 19 4 1 true (.object "CoalIsLent$Reader") := ⟨RX6, TX6, 8, tyX6, rfl, by decide, zin2 (List.mem_of_getElem? (i := 95) (by decide +kernel)) rfl, zinw_X6, tyX6_ok, nmX6, rfl, rfl⟩
theorem zf_X6_54 : zFld RX6 54 4 2 true (.object "CoalIsLent$World") := ⟨RX6, TX6, 8, tyX6, rfl, by decide, zin2 (List.mem_of_getElem? (i := 96) (by decide +kernel)) rfl, zinw_X6, tyX6_ok, nmX6, rfl, rfl⟩
theorem zf_X6_58 : zFld RX6 58 4 3 true (.object "CoalIsLent$World") := ⟨RX6, TX6, 8, tyX6, rfl, by decide, zin2 (List.mem_of_getElem? (i := 97) (by decide +kernel)) rfl, zinw_X6, tyX6_ok, nmX6, rfl, rfl⟩
theorem zf_X6_61 : zFld RX6 61 4 4 true (.object "CoalIsLent$World") := ⟨RX6, TX6, 8, tyX6, rfl, by decide, zin2 (List.mem_of_getElem? (i := 98) (by decide +kernel)) rfl, zinw_X6, tyX6_ok, nmX6, rfl, rfl⟩
theorem zf_X6_67 : zFld RX6 67 4 5 true (.object "CoalIsLent$Sheets") := ⟨RX6, TX6, 8, tyX6, rfl, by decide, zin2 (List.mem_of_getElem? (i := 99) (by decide +kernel)) rfl, zinw_X6, tyX6_ok, nmX6, rfl, rfl⟩
theorem zf_X6_71 : zFld RX6 71 4 6 true (.array .int) := ⟨RX6, TX6, 8, tyX6, rfl, by decide, zin2 (List.mem_of_getElem? (i := 100) (by decide +kernel)) rfl, zinw_X6, tyX6_ok, nmX6, rfl, rfl⟩
theorem zf_X6_75 : zFld RX6 75 4 7 false .boolean := ⟨RX6, TX6, 8, tyX6, rfl, by decide, zin2 (List.mem_of_getElem? (i := 101) (by decide +kernel)) rfl, zinw_X6, tyX6_ok, nmX6, rfl, rfl⟩
theorem zfJ_X1_7 : Cond.fieldLink RX1 7 "CoalIsLent$Kinds" "ABOVE" "[I" ∈ zW := zin4 (List.mem_of_getElem? (i := 52) (by decide +kernel)) rfl
theorem zf_X7_84 : zFld RX7 84 5 0 false .int := ⟨RX7, TX7, 37, tyX7, rfl, by decide, zin4 (List.mem_of_getElem? (i := 107) (by decide +kernel)) rfl, zinw_X7, tyX7_ok, nmX7, rfl, rfl⟩
theorem zf_X7_7 : zFld RX7 7 5 1 true (.array .int) := ⟨RX7, TX7, 37, tyX7, rfl, by decide, zin4 (List.mem_of_getElem? (i := 108) (by decide +kernel)) rfl, zinw_X7, tyX7_ok, nmX7, rfl, rfl⟩
theorem zf_X7_13 : zFld RX7 13 5 2 true (.array .int) := ⟨RX7, TX7, 37, tyX7, rfl, by decide, zin4 (List.mem_of_getElem? (i := 109) (by decide +kernel)) rfl, zinw_X7, tyX7_ok, nmX7, rfl, rfl⟩
theorem zf_X7_16 : zFld RX7 16 5 3 true (.array .int) := ⟨RX7, TX7, 37, tyX7, rfl, by decide, zin4 (List.mem_of_getElem? (i := 110) (by decide +kernel)) rfl, zinw_X7, tyX7_ok, nmX7, rfl, rfl⟩
theorem zf_X7_19 : zFld RX7 19 5 4 true (.array .int) := ⟨RX7, TX7, 37, tyX7, rfl, by decide, zin4 (List.mem_of_getElem? (i := 111) (by decide +kernel)) rfl, zinw_X7, tyX7_ok, nmX7, rfl, rfl⟩
theorem zf_X7_22 : zFld RX7 22 5 5 true (.array .int) := ⟨RX7, TX7, 37, tyX7, rfl, by decide, zin4 (List.mem_of_getElem? (i := 112) (by decide +kernel)) rfl, zinw_X7, tyX7_ok, nmX7, rfl, rfl⟩
theorem zf_X7_25 : zFld RX7 25 5 6 true (.array .int) := ⟨RX7, TX7, 37, tyX7, rfl, by decide, zin4 (List.mem_of_getElem? (i := 113) (by decide +kernel)) rfl, zinw_X7, tyX7_ok, nmX7, rfl, rfl⟩
theorem zf_X7_28 : zFld RX7 28 5 7 true (.array .int) := ⟨RX7, TX7, 37, tyX7, rfl, by decide, zin4 (List.mem_of_getElem? (i := 114) (by decide +kernel)) rfl, zinw_X7, tyX7_ok, nmX7, rfl, rfl⟩
theorem zf_X7_91 : zFld RX7 91 5 8 false .int := ⟨RX7, TX7, 37, tyX7, rfl, by decide, zin4 (List.mem_of_getElem? (i := 115) (by decide +kernel)) rfl, zinw_X7, tyX7_ok, nmX7, rfl, rfl⟩
theorem zf_X7_94 : zFld RX7 94 5 9 false .int := ⟨RX7, TX7, 37, tyX7, rfl, by decide, zin4 (List.mem_of_getElem? (i := 116) (by decide +kernel)) rfl, zinw_X7, tyX7_ok, nmX7, rfl, rfl⟩
theorem zf_X7_31 : zFld RX7 31 5 10 true (.array .int) := ⟨RX7, TX7, 37, tyX7, rfl, by decide, zin4 (List.mem_of_getElem? (i := 117) (by decide +kernel)) rfl, zinw_X7, tyX7_ok, nmX7, rfl, rfl⟩
theorem zf_X7_76 : zFld RX7 76 5 11 false .int := ⟨RX7, TX7, 37, tyX7, rfl, by decide, zin4 (List.mem_of_getElem? (i := 118) (by decide +kernel)) rfl, zinw_X7, tyX7_ok, nmX7, rfl, rfl⟩
theorem zf_X7_34 : zFld RX7 34 5 12 true (.array .int) := ⟨RX7, TX7, 37, tyX7, rfl, by decide, zin4 (List.mem_of_getElem? (i := 119) (by decide +kernel)) rfl, zinw_X7, tyX7_ok, nmX7, rfl, rfl⟩
theorem zf_X7_37 : zFld RX7 37 5 13 true (.array .int) := ⟨RX7, TX7, 37, tyX7, rfl, by decide, zin4 (List.mem_of_getElem? (i := 120) (by decide +kernel)) rfl, zinw_X7, tyX7_ok, nmX7, rfl, rfl⟩
theorem zf_X7_100 : zFld RX7 100 5 14 false .int := ⟨RX7, TX7, 37, tyX7, rfl, by decide, zin4 (List.mem_of_getElem? (i := 121) (by decide +kernel)) rfl, zinw_X7, tyX7_ok, nmX7, rfl, rfl⟩
theorem zf_X7_103 : zFld RX7 103 5 15 false .int := ⟨RX7, TX7, 37, tyX7, rfl, by decide, zin4 (List.mem_of_getElem? (i := 122) (by decide +kernel)) rfl, zinw_X7, tyX7_ok, nmX7, rfl, rfl⟩
theorem zf_X7_272 : zFld RX7 272 5 16 false .boolean := ⟨RX7, TX7, 37, tyX7, rfl, by decide, zin4 (List.mem_of_getElem? (i := 123) (by decide +kernel)) rfl, zinw_X7, tyX7_ok, nmX7, rfl, rfl⟩
theorem zf_X7_40 : zFld RX7 40 5 17 true (.array .int) := ⟨RX7, TX7, 37, tyX7, rfl, by decide, zin4 (List.mem_of_getElem? (i := 124) (by decide +kernel)) rfl, zinw_X7, tyX7_ok, nmX7, rfl, rfl⟩
theorem zf_X7_43 : zFld RX7 43 5 18 true (.array .int) := ⟨RX7, TX7, 37, tyX7, rfl, by decide, zin4 (List.mem_of_getElem? (i := 125) (by decide +kernel)) rfl, zinw_X7, tyX7_ok, nmX7, rfl, rfl⟩
theorem zf_X7_46 : zFld RX7 46 5 19 true (.array .int) := ⟨RX7, TX7, 37, tyX7, rfl, by decide, zin4 (List.mem_of_getElem? (i := 126) (by decide +kernel)) rfl, zinw_X7, tyX7_ok, nmX7, rfl, rfl⟩
theorem zf_X7_49 : zFld RX7 49 5 20 true (.array .int) := ⟨RX7, TX7, 37, tyX7, rfl, by decide, zin4 (List.mem_of_getElem? (i := 127) (by decide +kernel)) rfl, zinw_X7, tyX7_ok, nmX7, rfl, rfl⟩
theorem zf_X7_52 : zFld RX7 52 5 21 true (.array .int) := ⟨RX7, TX7, 37, tyX7, rfl, by decide, zin4 (List.mem_of_getElem? (i := 128) (by decide +kernel)) rfl, zinw_X7, tyX7_ok, nmX7, rfl, rfl⟩
theorem zf_X7_55 : zFld RX7 55 5 22 true (.array .int) := ⟨RX7, TX7, 37, tyX7, rfl, by decide, zin4 (List.mem_of_getElem? (i := 129) (by decide +kernel)) rfl, zinw_X7, tyX7_ok, nmX7, rfl, rfl⟩
theorem zf_X7_110 : zFld RX7 110 5 23 false .int := ⟨RX7, TX7, 37, tyX7, rfl, by decide, zin4 (List.mem_of_getElem? (i := 130) (by decide +kernel)) rfl, zinw_X7, tyX7_ok, nmX7, rfl, rfl⟩
theorem zf_X7_113 : zFld RX7 113 5 24 false .int := ⟨RX7, TX7, 37, tyX7, rfl, by decide, zin4 (List.mem_of_getElem? (i := 131) (by decide +kernel)) rfl, zinw_X7, tyX7_ok, nmX7, rfl, rfl⟩
theorem zf_X7_116 : zFld RX7 116 5 25 false .int := ⟨RX7, TX7, 37, tyX7, rfl, by decide, zin4 (List.mem_of_getElem? (i := 132) (by decide +kernel)) rfl, zinw_X7, tyX7_ok, nmX7, rfl, rfl⟩
theorem zf_X7_119 : zFld RX7 119 5 26 false .int := ⟨RX7, TX7, 37, tyX7, rfl, by decide, zin4 (List.mem_of_getElem? (i := 133) (by decide +kernel)) rfl, zinw_X7, tyX7_ok, nmX7, rfl, rfl⟩
theorem zf_X7_58 : zFld RX7 58 5 27 true (.array .int) := ⟨RX7, TX7, 37, tyX7, rfl, by decide, zin4 (List.mem_of_getElem? (i := 134) (by decide +kernel)) rfl, zinw_X7, tyX7_ok, nmX7, rfl, rfl⟩
theorem zf_X7_61 : zFld RX7 61 5 28 true (.array .int) := ⟨RX7, TX7, 37, tyX7, rfl, by decide, zin4 (List.mem_of_getElem? (i := 135) (by decide +kernel)) rfl, zinw_X7, tyX7_ok, nmX7, rfl, rfl⟩
theorem zf_X7_129 : zFld RX7 129 5 29 false .int := ⟨RX7, TX7, 37, tyX7, rfl, by decide, zin4 (List.mem_of_getElem? (i := 136) (by decide +kernel)) rfl, zinw_X7, tyX7_ok, nmX7, rfl, rfl⟩
theorem zf_X7_136 : zFld RX7 136 5 30 false .int := ⟨RX7, TX7, 37, tyX7, rfl, by decide, zin4 (List.mem_of_getElem? (i := 137) (by decide +kernel)) rfl, zinw_X7, tyX7_ok, nmX7, rfl, rfl⟩
theorem zf_X7_126 : zFld RX7 126 5 31 false .int := ⟨RX7, TX7, 37, tyX7, rfl, by decide, zin4 (List.mem_of_getElem? (i := 138) (by decide +kernel)) rfl, zinw_X7, tyX7_ok, nmX7, rfl, rfl⟩
theorem zf_X7_64 : zFld RX7 64 5 32 true (.array .int) := ⟨RX7, TX7, 37, tyX7, rfl, by decide, zin4 (List.mem_of_getElem? (i := 139) (by decide +kernel)) rfl, zinw_X7, tyX7_ok, nmX7, rfl, rfl⟩
theorem zf_X7_67 : zFld RX7 67 5 33 true (.array .int) := ⟨RX7, TX7, 37, tyX7, rfl, by decide, zin4 (List.mem_of_getElem? (i := 140) (by decide +kernel)) rfl, zinw_X7, tyX7_ok, nmX7, rfl, rfl⟩
theorem zf_X7_70 : zFld RX7 70 5 34 true (.array .int) := ⟨RX7, TX7, 37, tyX7, rfl, by decide, zin4 (List.mem_of_getElem? (i := 141) (by decide +kernel)) rfl, zinw_X7, tyX7_ok, nmX7, rfl, rfl⟩
theorem zf_X7_73 : zFld RX7 73 5 35 true (.array .int) := ⟨RX7, TX7, 37, tyX7, rfl, by decide, zin4 (List.mem_of_getElem? (i := 142) (by decide +kernel)) rfl, zinw_X7, tyX7_ok, nmX7, rfl, rfl⟩
theorem zf_X7_259 : zFld RX7 259 5 36 false .int := ⟨RX7, TX7, 37, tyX7, rfl, by decide, zin4 (List.mem_of_getElem? (i := 143) (by decide +kernel)) rfl, zinw_X7, tyX7_ok, nmX7, rfl, rfl⟩
theorem zfJ_J0_9 : Cond.fieldLink RJ0 9 "java/lang/String" "value" "[B" ∈ zW := zin6 (List.mem_of_getElem? (i := 20) (by decide +kernel)) rfl
theorem zfJ_J0_15 : Cond.fieldLink RJ0 15 "java/lang/String" "coder" "B" ∈ zW := zin6 (List.mem_of_getElem? (i := 21) (by decide +kernel)) rfl
theorem zn_X6_9 : zNest[0]? = some (RX6, 9, yX4_init, "CoalIsLent") := rfl
theorem zn_X6_18 : zNest[1]? = some (RX6, 18, yX2_init, "CoalIsLent") := rfl
theorem zn_X2_149 : zNest[2]? = some (RX2, 149, yX6_isFromTo, "CoalIsLent") := rfl
theorem zn_X6_66 : zNest[3]? = some (RX6, 66, yX3_init, "CoalIsLent") := rfl
theorem zn_X5_67 : zNest[4]? = some (RX5, 67, yX6_isFromTo, "CoalIsLent") := rfl
theorem zn_X5_76 : zNest[5]? = some (RX5, 76, yX6_has, "CoalIsLent") := rfl
theorem zkn : 0 ≤ 0 ∧ 0 ≤ 0 := ⟨Nat.le_refl 0, Nat.le_refl 0⟩
theorem zk_b_m100 : (Int8.ofInt (-100)).toInt32 = ((-100) : Int32) := by decide
theorem zk_b_m27 : (Int8.ofInt (-27)).toInt32 = ((-27) : Int32) := by decide
theorem zk_b_m26 : (Int8.ofInt (-26)).toInt32 = ((-26) : Int32) := by decide
theorem zk_b_m25 : (Int8.ofInt (-25)).toInt32 = ((-25) : Int32) := by decide
theorem zk_b_m24 : (Int8.ofInt (-24)).toInt32 = ((-24) : Int32) := by decide
theorem zk_b_m23 : (Int8.ofInt (-23)).toInt32 = ((-23) : Int32) := by decide
theorem zk_b_m22 : (Int8.ofInt (-22)).toInt32 = ((-22) : Int32) := by decide
theorem zk_b_m21 : (Int8.ofInt (-21)).toInt32 = ((-21) : Int32) := by decide
theorem zk_b_m14 : (Int8.ofInt (-14)).toInt32 = ((-14) : Int32) := by decide
theorem zk_b_m13 : (Int8.ofInt (-13)).toInt32 = ((-13) : Int32) := by decide
theorem zk_b_m12 : (Int8.ofInt (-12)).toInt32 = ((-12) : Int32) := by decide
theorem zk_b_m11 : (Int8.ofInt (-11)).toInt32 = ((-11) : Int32) := by decide
theorem zk_b_m7 : (Int8.ofInt (-7)).toInt32 = ((-7) : Int32) := by decide
theorem zk_b_m5 : (Int8.ofInt (-5)).toInt32 = ((-5) : Int32) := by decide
theorem zk_b_m4 : (Int8.ofInt (-4)).toInt32 = ((-4) : Int32) := by decide
theorem zk_b_m3 : (Int8.ofInt (-3)).toInt32 = ((-3) : Int32) := by decide
theorem zk_b_m2 : (Int8.ofInt (-2)).toInt32 = ((-2) : Int32) := by decide
theorem zk_b_6 : (Int8.ofInt 6).toInt32 = (6 : Int32) := by decide
theorem zk_b_7 : (Int8.ofInt 7).toInt32 = (7 : Int32) := by decide
theorem zk_b_8 : (Int8.ofInt 8).toInt32 = (8 : Int32) := by decide
theorem zk_b_9 : (Int8.ofInt 9).toInt32 = (9 : Int32) := by decide
theorem zk_b_10 : (Int8.ofInt 10).toInt32 = (10 : Int32) := by decide
theorem zk_b_11 : (Int8.ofInt 11).toInt32 = (11 : Int32) := by decide
theorem zk_b_12 : (Int8.ofInt 12).toInt32 = (12 : Int32) := by decide
theorem zk_b_13 : (Int8.ofInt 13).toInt32 = (13 : Int32) := by decide
theorem zk_b_14 : (Int8.ofInt 14).toInt32 = (14 : Int32) := by decide
theorem zk_b_15 : (Int8.ofInt 15).toInt32 = (15 : Int32) := by decide
theorem zk_b_16 : (Int8.ofInt 16).toInt32 = (16 : Int32) := by decide
theorem zk_b_17 : (Int8.ofInt 17).toInt32 = (17 : Int32) := by decide
theorem zk_b_18 : (Int8.ofInt 18).toInt32 = (18 : Int32) := by decide
theorem zk_b_19 : (Int8.ofInt 19).toInt32 = (19 : Int32) := by decide
theorem zk_b_20 : (Int8.ofInt 20).toInt32 = (20 : Int32) := by decide
theorem zk_b_28 : (Int8.ofInt 28).toInt32 = (28 : Int32) := by decide
theorem zk_b_30 : (Int8.ofInt 30).toInt32 = (30 : Int32) := by decide
theorem zk_b_32 : (Int8.ofInt 32).toInt32 = (32 : Int32) := by decide
theorem zk_b_38 : (Int8.ofInt 38).toInt32 = (38 : Int32) := by decide
theorem zk_b_39 : (Int8.ofInt 39).toInt32 = (39 : Int32) := by decide
theorem zk_b_40 : (Int8.ofInt 40).toInt32 = (40 : Int32) := by decide
theorem zk_b_41 : (Int8.ofInt 41).toInt32 = (41 : Int32) := by decide
theorem zk_b_42 : (Int8.ofInt 42).toInt32 = (42 : Int32) := by decide
theorem zk_b_43 : (Int8.ofInt 43).toInt32 = (43 : Int32) := by decide
theorem zk_b_45 : (Int8.ofInt 45).toInt32 = (45 : Int32) := by decide
theorem zk_b_48 : (Int8.ofInt 48).toInt32 = (48 : Int32) := by decide
theorem zk_b_50 : (Int8.ofInt 50).toInt32 = (50 : Int32) := by decide
theorem zk_b_55 : (Int8.ofInt 55).toInt32 = (55 : Int32) := by decide
theorem zk_b_57 : (Int8.ofInt 57).toInt32 = (57 : Int32) := by decide
theorem zk_b_58 : (Int8.ofInt 58).toInt32 = (58 : Int32) := by decide
theorem zk_b_59 : (Int8.ofInt 59).toInt32 = (59 : Int32) := by decide
theorem zk_b_60 : (Int8.ofInt 60).toInt32 = (60 : Int32) := by decide
theorem zk_b_61 : (Int8.ofInt 61).toInt32 = (61 : Int32) := by decide
theorem zk_b_63 : (Int8.ofInt 63).toInt32 = (63 : Int32) := by decide
theorem zk_b_97 : (Int8.ofInt 97).toInt32 = (97 : Int32) := by decide
theorem zk_b_99 : (Int8.ofInt 99).toInt32 = (99 : Int32) := by decide
theorem zk_b_100 : (Int8.ofInt 100).toInt32 = (100 : Int32) := by decide
theorem zk_b_101 : (Int8.ofInt 101).toInt32 = (101 : Int32) := by decide
theorem zk_b_122 : (Int8.ofInt 122).toInt32 = (122 : Int32) := by decide
theorem zk_i_m2 : Int32.ofInt (-2) = ((-2) : Int32) := by decide
theorem zk_i_m1 : Int32.ofInt (-1) = ((-1) : Int32) := by decide
theorem zk_i_0 : Int32.ofInt 0 = (0 : Int32) := by decide
theorem zk_i_1 : Int32.ofInt 1 = (1 : Int32) := by decide
theorem zk_i_2 : Int32.ofInt 2 = (2 : Int32) := by decide
theorem zk_i_3 : Int32.ofInt 3 = (3 : Int32) := by decide
theorem zk_i_4 : Int32.ofInt 4 = (4 : Int32) := by decide
theorem zk_i_5 : Int32.ofInt 5 = (5 : Int32) := by decide
theorem zk_i_7 : Int32.ofInt 7 = (7 : Int32) := by decide
theorem zk_l_0 : Int64.ofNat ((0 : Fin 2) : Nat) = (0 : Int64) := by decide
theorem zk_l_1 : Int64.ofNat ((1 : Fin 2) : Nat) = (1 : Int64) := by decide
theorem zk_n_160 : Int32.ofNat 160 = (160 : Int32) := by decide
theorem zk_s_160 : (Int16.ofInt 160).toInt32 = (160 : Int32) := by decide
theorem zk_s_200 : (Int16.ofInt 200).toInt32 = (200 : Int32) := by decide
theorem zk_s_255 : (Int16.ofInt 255).toInt32 = (255 : Int32) := by decide
theorem zk_s_299 : (Int16.ofInt 299).toInt32 = (299 : Int32) := by decide
theorem zk_s_999 : (Int16.ofInt 999).toInt32 = (999 : Int32) := by decide
theorem zk_s_9999 : (Int16.ofInt 9999).toInt32 = (9999 : Int32) := by decide
def zFull : zLay := [.inr (4, [some (some 1), some (some 5), some (some 9), some (some 20), some (some 31), some (some 42), some (some 46), none]), .inr (2, [some (some 2), some (some 3), some (some 4), none]), .inl 960, .inl 18, .inl 160, .inr (0, [some (some 6), none, some (some 7), none, some (some 8), none, none, none, none, none]), .inl 160, .inl 160, .inl 3, .inr (3, [some (some 10), some (some 11), some (some 12), some (some 13), some (some 14), some (some 15), some (some 16), some (some 17), some (some 18), none, none, none, none, some (some 1), some (some 19)]), .inl 6, .inl 6, .inl 6, .inl 6, .inl 6, .inl 10, .inl 10, .inl 10, .inl 10, .inl 6, .inr (3, [some (some 21), some (some 22), some (some 23), some (some 24), some (some 25), some (some 26), some (some 27), some (some 28), some (some 29), none, none, none, none, some (some 1), some (some 30)]), .inl 6, .inl 6, .inl 6, .inl 6, .inl 6, .inl 10, .inl 10, .inl 10, .inl 10, .inl 6, .inr (3, [some (some 32), some (some 33), some (some 34), some (some 35), some (some 36), some (some 37), some (some 38), some (some 39), some (some 40), none, none, none, none, some (some 1), some (some 41)]), .inl 6, .inl 6, .inl 6, .inl 6, .inl 6, .inl 10, .inl 10, .inl 10, .inl 10, .inl 6, .inr (1, [some (some 43), some (some 44), some (some 45)]), .inl 4, .inl 4, .inl 160, .inl 6, .inr (5, [none, some (some 48), some (some 49), some (some 50), some (some 51), some (some 52), some (some 53), some (some 54), none, none, some (some 55), none, some (some 56), some (some 57), none, none, none, some (some 58), some (some 59), some (some 60), some (some 61), some (some 62), some (some 63), none, none, none, none, some (some 64), some (some 65), none, none, none, some (some 66), some (some 67), some (some 68), some (some 69), none]), .inl 6, .inl 6, .inl 18, .inl 10, .inl 10, .inl 10, .inl 10, .inl 160, .inl 1200, .inl 24, .inl 58, .inl 4, .inl 4, .inl 4, .inl 160, .inl 42, .inl 96, .inl 200, .inl 200, .inl 6, .inl 60, .inl 6]
theorem zl_0 : zFull[0]? = some (.inr (4, [some (some 1), some (some 5), some (some 9), some (some 20), some (some 31), some (some 42), some (some 46), none])) := rfl
theorem zl_1 : zFull[1]? = some (.inr (2, [some (some 2), some (some 3), some (some 4), none])) := rfl
theorem zl_2 : zFull[2]? = some (.inl 960) := rfl
theorem zl_3 : zFull[3]? = some (.inl 18) := rfl
theorem zl_4 : zFull[4]? = some (.inl 160) := rfl
theorem zl_5 : zFull[5]? = some (.inr (0, [some (some 6), none, some (some 7), none, some (some 8), none, none, none, none, none])) := rfl
theorem zl_6 : zFull[6]? = some (.inl 160) := rfl
theorem zl_7 : zFull[7]? = some (.inl 160) := rfl
theorem zl_8 : zFull[8]? = some (.inl 3) := rfl
theorem zl_9 : zFull[9]? = some (.inr (3, [some (some 10), some (some 11), some (some 12), some (some 13), some (some 14), some (some 15), some (some 16), some (some 17), some (some 18), none, none, none, none, some (some 1), some (some 19)])) := rfl
theorem zl_10 : zFull[10]? = some (.inl 6) := rfl
theorem zl_11 : zFull[11]? = some (.inl 6) := rfl
theorem zl_12 : zFull[12]? = some (.inl 6) := rfl
theorem zl_13 : zFull[13]? = some (.inl 6) := rfl
theorem zl_14 : zFull[14]? = some (.inl 6) := rfl
theorem zl_15 : zFull[15]? = some (.inl 10) := rfl
theorem zl_16 : zFull[16]? = some (.inl 10) := rfl
theorem zl_17 : zFull[17]? = some (.inl 10) := rfl
theorem zl_18 : zFull[18]? = some (.inl 10) := rfl
theorem zl_19 : zFull[19]? = some (.inl 6) := rfl
theorem zl_20 : zFull[20]? = some (.inr (3, [some (some 21), some (some 22), some (some 23), some (some 24), some (some 25), some (some 26), some (some 27), some (some 28), some (some 29), none, none, none, none, some (some 1), some (some 30)])) := rfl
theorem zl_21 : zFull[21]? = some (.inl 6) := rfl
theorem zl_22 : zFull[22]? = some (.inl 6) := rfl
theorem zl_23 : zFull[23]? = some (.inl 6) := rfl
theorem zl_24 : zFull[24]? = some (.inl 6) := rfl
theorem zl_25 : zFull[25]? = some (.inl 6) := rfl
theorem zl_26 : zFull[26]? = some (.inl 10) := rfl
theorem zl_27 : zFull[27]? = some (.inl 10) := rfl
theorem zl_28 : zFull[28]? = some (.inl 10) := rfl
theorem zl_29 : zFull[29]? = some (.inl 10) := rfl
theorem zl_30 : zFull[30]? = some (.inl 6) := rfl
theorem zl_31 : zFull[31]? = some (.inr (3, [some (some 32), some (some 33), some (some 34), some (some 35), some (some 36), some (some 37), some (some 38), some (some 39), some (some 40), none, none, none, none, some (some 1), some (some 41)])) := rfl
theorem zl_32 : zFull[32]? = some (.inl 6) := rfl
theorem zl_33 : zFull[33]? = some (.inl 6) := rfl
theorem zl_34 : zFull[34]? = some (.inl 6) := rfl
theorem zl_35 : zFull[35]? = some (.inl 6) := rfl
theorem zl_36 : zFull[36]? = some (.inl 6) := rfl
theorem zl_37 : zFull[37]? = some (.inl 10) := rfl
theorem zl_38 : zFull[38]? = some (.inl 10) := rfl
theorem zl_39 : zFull[39]? = some (.inl 10) := rfl
theorem zl_40 : zFull[40]? = some (.inl 10) := rfl
theorem zl_41 : zFull[41]? = some (.inl 6) := rfl
theorem zl_42 : zFull[42]? = some (.inr (1, [some (some 43), some (some 44), some (some 45)])) := rfl
theorem zl_43 : zFull[43]? = some (.inl 4) := rfl
theorem zl_44 : zFull[44]? = some (.inl 4) := rfl
theorem zl_45 : zFull[45]? = some (.inl 160) := rfl
theorem zl_46 : zFull[46]? = some (.inl 6) := rfl
theorem zl_47 : zFull[47]? = some (.inr (5, [none, some (some 48), some (some 49), some (some 50), some (some 51), some (some 52), some (some 53), some (some 54), none, none, some (some 55), none, some (some 56), some (some 57), none, none, none, some (some 58), some (some 59), some (some 60), some (some 61), some (some 62), some (some 63), none, none, none, none, some (some 64), some (some 65), none, none, none, some (some 66), some (some 67), some (some 68), some (some 69), none])) := rfl
theorem zl_48 : zFull[48]? = some (.inl 6) := rfl
theorem zl_49 : zFull[49]? = some (.inl 6) := rfl
theorem zl_50 : zFull[50]? = some (.inl 18) := rfl
theorem zl_51 : zFull[51]? = some (.inl 10) := rfl
theorem zl_52 : zFull[52]? = some (.inl 10) := rfl
theorem zl_53 : zFull[53]? = some (.inl 10) := rfl
theorem zl_54 : zFull[54]? = some (.inl 10) := rfl
theorem zl_55 : zFull[55]? = some (.inl 160) := rfl
theorem zl_56 : zFull[56]? = some (.inl 1200) := rfl
theorem zl_57 : zFull[57]? = some (.inl 24) := rfl
theorem zl_58 : zFull[58]? = some (.inl 58) := rfl
theorem zl_59 : zFull[59]? = some (.inl 4) := rfl
theorem zl_60 : zFull[60]? = some (.inl 4) := rfl
theorem zl_61 : zFull[61]? = some (.inl 4) := rfl
theorem zl_62 : zFull[62]? = some (.inl 160) := rfl
theorem zl_63 : zFull[63]? = some (.inl 42) := rfl
theorem zl_64 : zFull[64]? = some (.inl 96) := rfl
theorem zl_65 : zFull[65]? = some (.inl 200) := rfl
theorem zl_66 : zFull[66]? = some (.inl 200) := rfl
theorem zl_67 : zFull[67]? = some (.inl 6) := rfl
theorem zl_68 : zFull[68]? = some (.inl 60) := rfl
theorem zl_69 : zFull[69]? = some (.inl 6) := rfl
def zWf (w : Nat) : List (Option (Option Nat)) := [some (some (w + 1)), some (some (w + 2)), some (some (w + 3)), some (some (w + 4)), some (some (w + 5)), some (some (w + 6)), some (some (w + 7)), some (some (w + 8)), some (some (w + 9)), none, none, none, none, some (some 1), some (some (w + 10))]
def zIsW (w : Nat) : Prop := zFull[w]? = some (.inr (3, zWf w)) ∧ zFull[w + 1]? = some (.inl 6) ∧ zFull[w + 2]? = some (.inl 6) ∧ zFull[w + 3]? = some (.inl 6) ∧ zFull[w + 4]? = some (.inl 6) ∧ zFull[w + 5]? = some (.inl 6) ∧ zFull[w + 6]? = some (.inl 10) ∧ zFull[w + 7]? = some (.inl 10) ∧ zFull[w + 8]? = some (.inl 10) ∧ zFull[w + 9]? = some (.inl 10) ∧ zFull[w + 10]? = some (.inl 6)
theorem zIsW_9 : zIsW 9 := ⟨rfl, rfl, rfl, rfl, rfl, rfl, rfl, rfl, rfl, rfl, rfl⟩
theorem zIsW_20 : zIsW 20 := ⟨rfl, rfl, rfl, rfl, rfl, rfl, rfl, rfl, rfl, rfl, rfl⟩
theorem zIsW_31 : zIsW 31 := ⟨rfl, rfl, rfl, rfl, rfl, rfl, rfl, rfl, rfl, rfl, rfl⟩
def zHasT (Λ : zLay) : Prop := ∀ a, 1 ≤ a → a < 9 → Λ[a]? = zFull[a]?
theorem zHasT_full : zHasT zFull := fun _ _ _ => rfl
def zN : Nat := 4000
end
section
def f_X2_emit  (p1 : Int32) (s0 : zMem) : Option (Unit × zMem) :=
  if 160 ≤ (s0 5 3) then
    some ((), s0)
  else
    gd (zib (s0 5 3) 160) <|
    nm (zUp s0 7 (zix (s0 5 3)) p1) fun s1 =>
    nm (zUp s1 5 3 ((s1 5 3) + 1)) fun s2 =>
    some ((), s2)
def f_X2_byteAt  (p1 : Int32) (s0 : zMem) : Option (Int32 × zMem) :=
  if p1 < 0 then
    some ((-1), s0)
  else
    if 160 ≤ p1 then
      some ((-1), s0)
    else
      gd (zib p1 160) <|
      some (s0 6 (zix p1), s0)
def f_X6_isFromTo  (p1 : Int32) (p2 : Int32) (p3 : Int32) (s0 : zMem) : Option (Int32 × zMem) :=
  if p1 < p2 then
    some (0, s0)
  else
    if p3 < p1 then
      some (0, s0)
    else
      some (1, s0)
def f_X2_isLetter  (p1 : Int32) (s0 : zMem) : Option (Int32 × zMem) :=
  bd (f_X6_isFromTo p1 97 122 s0) fun r1 s2 =>
  gd (z01 r1) <|
  some (r1, s2)
def f_X2_endOfWord_10   : Nat → Int32 → Int32 → zMem → Option (Int32 × zMem)
  | 0, _, _, _ => none
  | n + 1, x3, x4, s5 =>
    if (s5 5 1) ≤ x4 then
      some (x3, s5)
    else
      bd (f_X2_byteAt x4 s5) fun r6 s7 =>
      bd (f_X2_isLetter r6 s7) fun r8 s9 =>
      if r8 = 0 then
        some (x3, s9)
      else
        nm (x4 + 1) fun x10 =>
        nm (x4 + 1) fun x11 =>
        f_X2_endOfWord_10 n x10 x11 s9
def f_X2_endOfWord   (s0 : zMem) : Option (Int32 × zMem) :=
  nm (s0 5 6) fun x1 =>
  nm (s0 5 6) fun x2 =>
  f_X2_endOfWord_10 zN x1 x2 s0
def f_X2_isBlank  (p1 : Int32) (s0 : zMem) : Option (Int32 × zMem) :=
  if p1 = 32 then
    some (1, s0)
  else
    if p1 = 10 then
      some (1, s0)
    else
      some (0, s0)
def f_X2_isDigit  (p1 : Int32) (s0 : zMem) : Option (Int32 × zMem) :=
  bd (f_X6_isFromTo p1 48 57 s0) fun r1 s2 =>
  gd (z01 r1) <|
  some (r1, s2)
def f_X2_isSign  (p1 : Int32) (s0 : zMem) : Option (Int32 × zMem) :=
  if p1 = 40 then
    some (1, s0)
  else if p1 = 41 then
    some (1, s0)
  else if p1 = 42 then
    some (1, s0)
  else if p1 = 43 then
    some (1, s0)
  else if p1 = 44 then
    some (0, s0)
  else if p1 = 45 then
    some (1, s0)
  else if p1 = 46 then
    some (0, s0)
  else if p1 = 47 then
    some (0, s0)
  else if p1 = 48 then
    some (0, s0)
  else if p1 = 49 then
    some (0, s0)
  else if p1 = 50 then
    some (0, s0)
  else if p1 = 51 then
    some (0, s0)
  else if p1 = 52 then
    some (0, s0)
  else if p1 = 53 then
    some (0, s0)
  else if p1 = 54 then
    some (0, s0)
  else if p1 = 55 then
    some (0, s0)
  else if p1 = 56 then
    some (0, s0)
  else if p1 = 57 then
    some (0, s0)
  else if p1 = 58 then
    some (0, s0)
  else if p1 = 59 then
    some (1, s0)
  else if p1 = 60 then
    some (1, s0)
  else if p1 = 61 then
    some (1, s0)
  else
    some (0, s0)
def f_J0_isLatin1_aae02 (i : Nat)  (s0 : zMem) : Option (Int32 × zMem) :=
  some (1, s0)
def f_J3_checkIndex_8e157  (p1 : Int32) (p2 : Int32) (s0 : zMem) : Option (Int32 × zMem) :=
  if p1 < 0 then
    none
  else
    if p1 < p2 then
      some (p1, s0)
    else
      none
def f_J0_checkIndex_df160  (p1 : Int32) (p2 : Int32) (s0 : zMem) : Option (Unit × zMem) :=
  bd (f_J3_checkIndex_8e157 p1 p2 s0) fun r1 s2 =>
  some ((), s2)
def f_J1_charAt_3b067 (i : Nat) (p2 : Int32) (s0 : zMem) : Option (Int32 × zMem) :=
  bd (f_J0_checkIndex_df160 p2 (Int32.ofNat (zLen.getD i 0)) s0) fun _ s2 =>
  gd (zib p2 (zLen.getD i 0)) <|
  gd (zch (((((zByt.getD i []).getD (zix p2) 0) &&& 255).toUInt32 % 65536).toInt32)) <|
  some (((((zByt.getD i []).getD (zix p2) 0) &&& 255).toUInt32 % 65536).toInt32, s2)
def f_J0_charAt_5068e (i : Nat) (p1 : Int32) (s0 : zMem) : Option (Int32 × zMem) :=
  bd (f_J0_isLatin1_aae02 i s0) fun r1 s2 =>
  if r1 = 0 then
    none
  else
    bd (f_J1_charAt_3b067 i p1 s2) fun r3 s4 =>
    gd (zch r3) <|
    some (r3, s4)
def f_J0_coder_7d493 (i : Nat)  (s0 : zMem) : Option (Int32 × zMem) :=
  some (0, s0)
def f_J0_length_8abf5 (i : Nat)  (s0 : zMem) : Option (Int32 × zMem) :=
  bd (f_J0_coder_7d493 i s0) fun r1 s2 =>
  some ((Int32.ofNat (zLen.getD i 0)) >>> (r1 &&& 31), s2)
def f_X2_isRead_20 (i : Nat)  : Nat → Int32 → zMem → Option (Int32 × zMem)
  | 0, _, _ => none
  | n + 1, x3, s4 =>
    bd (f_J0_length_8abf5 i s4) fun r5 s6 =>
    if r5 ≤ x3 then
      some (1, s6)
    else
      bd (f_X2_byteAt ((s6 5 6) + x3) s6) fun r7 s8 =>
      bd (f_J0_charAt_5068e i x3 s8) fun r9 s10 =>
      if r7 = r9 then
        nm (x3 + 1) fun x11 =>
        f_X2_isRead_20 i n x11 s10
      else
        some (0, s10)
def f_X2_isRead (i : Nat)  (s0 : zMem) : Option (Int32 × zMem) :=
  bd (f_J0_length_8abf5 i s0) fun r1 s2 =>
  if ((s0 5 5) - (s0 5 6)) = r1 then
    f_X2_isRead_20 i zN 0 s2
  else
    some (0, s2)
def f_X2_keyRead   (s0 : zMem) : Option (Int32 × zMem) :=
  bd (f_X2_isRead 1 s0) fun r1 s2 =>
  if r1 = 0 then
    bd (f_X2_isRead 2 s2) fun r3 s4 =>
    if r3 = 0 then
      bd (f_X2_isRead 3 s4) fun r5 s6 =>
      if r5 = 0 then
        bd (f_X2_isRead 4 s6) fun r7 s8 =>
        if r7 = 0 then
          bd (f_X2_isRead 5 s8) fun r9 s10 =>
          if r9 = 0 then
            bd (f_X2_isRead 6 s10) fun r11 s12 =>
            if r11 = 0 then
              some (1, s12)
            else
              some (9, s12)
          else
            some (8, s10)
        else
          some (7, s8)
      else
        some (6, s6)
    else
      some (5, s4)
  else
    some (4, s2)
def f_X2_nameRead   (s0 : zMem) : Option (Int32 × zMem) :=
  bd (f_X2_isRead 7 s0) fun r1 s2 =>
  if r1 = 0 then
    bd (f_X2_isRead 8 s2) fun r3 s4 =>
    if r3 = 0 then
      bd (f_X2_isRead 9 s4) fun r5 s6 =>
      if r5 = 0 then
        bd (f_X2_isRead 10 s6) fun r7 s8 =>
        if r7 = 0 then
          bd (f_X2_isRead 11 s8) fun r9 s10 =>
          if r9 = 0 then
            bd (f_X2_isRead 12 s10) fun r11 s12 =>
            if r11 = 0 then
              some ((-1), s12)
            else
              some (5, s12)
          else
            some (4, s10)
        else
          some (3, s8)
      else
        some (2, s6)
    else
      some (1, s4)
  else
    some (0, s2)
def f_X2_readNumber_10  (c62 : zMem → Option (Unit × zMem)) : Nat → Int32 → zMem → Option (Unit × zMem)
  | 0, _, _ => none
  | n + 1, x3, s4 =>
    if (s4 5 1) ≤ x3 then
      c62 s4
    else
      bd (f_X2_byteAt x3 s4) fun r5 s6 =>
      bd (f_X2_isDigit r5 s6) fun r7 s8 =>
      if r7 = 0 then
        c62 s8
      else
        nm (zUp s8 5 5 (x3 + 1)) fun s9 =>
        bd (f_X2_byteAt x3 s9) fun r10 s11 =>
        nm (zUp s11 5 8 ((((s9 5 8) * 10) + r10) - 48)) fun s12 =>
        nm (x3 + 1) fun x13 =>
        f_X2_readNumber_10 c62 n x13 s12
def f_X2_readNumber   (s0 : zMem) : Option (Unit × zMem) :=
  nm (zUp s0 5 8 0) fun s1 =>
  nm (s1 5 6) fun x2 =>
  f_X2_readNumber_10 (fun s14 =>
    if ((s14 5 5) - (s14 5 6)) ≤ 4 then
      nm (zUp s14 5 7 2) fun s15 =>
      some ((), s15)
    else
      nm (zUp s14 5 7 1) fun s16 =>
      some ((), s16)) zN x2 s1
def f_X2_readToken_5  (c37 : zMem → Option (Unit × zMem)) : Nat → Int32 → zMem → Option (Unit × zMem)
  | 0, _, _ => none
  | n + 1, x2, s3 =>
    if (s3 5 1) ≤ x2 then
      c37 s3
    else
      bd (f_X2_byteAt x2 s3) fun r4 s5 =>
      bd (f_X2_isBlank r4 s5) fun r6 s7 =>
      if r6 = 0 then
        c37 s7
      else
        nm (zUp s7 5 5 (x2 + 1)) fun s8 =>
        nm (x2 + 1) fun x9 =>
        f_X2_readToken_5 c37 n x9 s8
def f_X2_readToken_37   (s11 : zMem) : Option (Unit × zMem) :=
  nm (zUp s11 5 6 (s11 5 5)) fun s12 =>
  bd (f_X2_byteAt (s12 5 6) s12) fun r13 s14 =>
  if (s14 5 6) < (s14 5 1) then
    bd (f_X2_isLetter r13 s14) fun r15 s16 =>
    if r15 = 0 then
      bd (f_X2_isDigit r13 s16) fun r17 s18 =>
      if r17 = 0 then
        nm (zUp s18 5 5 ((s18 5 6) + 1)) fun s19 =>
        bd (f_X2_isSign r13 s19) fun r20 s21 =>
        if r20 = 0 then
          nm (zUp s21 5 7 1) fun s22 =>
          some ((), s22)
        else
          nm (zUp s21 5 7 r13) fun s23 =>
          some ((), s23)
      else
        bd (f_X2_readNumber s18) fun _ s25 =>
        some ((), s25)
    else
      bd (f_X2_endOfWord s16) fun r26 s27 =>
      nm (zUp s27 5 5 r26) fun s28 =>
      bd (f_X2_nameRead s28) fun r29 s30 =>
      nm (zUp s30 5 8 r29) fun s31 =>
      if (s31 5 8) = (-1) then
        bd (f_X2_keyRead s31) fun r33 s34 =>
        nm (zUp s34 5 7 r33) fun s35 =>
        some ((), s35)
      else
        nm (zUp s31 5 7 3) fun s32 =>
        some ((), s32)
  else
    nm (zUp s14 5 7 0) fun s36 =>
    some ((), s36)
def f_X2_readToken   (s0 : zMem) : Option (Unit × zMem) :=
  nm (s0 5 5) fun x1 =>
  f_X2_readToken_5 (fun s10 =>
    f_X2_readToken_37 s10) zN x1 s0
def f_X2_fail   (s0 : zMem) : Option (Unit × zMem) :=
  if (s0 5 9) = (-1) then
    nm (zUp s0 5 9 (s0 5 6)) fun s2 =>
    nm (zUp s2 5 7 1) fun s3 =>
    some ((), s3)
  else
    nm (zUp s0 5 7 1) fun s1 =>
    some ((), s1)
def f_X2_opens  (p1 : Int32) (s0 : zMem) : Option (Int32 × zMem) :=
  if p1 < 5 then
    bd (f_X2_readToken s0) fun _ s2 =>
    some (1, s2)
  else
    bd (f_X2_fail s0) fun _ s4 =>
    some (0, s4)
def f_X0_ofName  (p1 : Int32) (s0 : zMem) : Option (Int32 × zMem) :=
  some ((-1) - p1, s0)
def f_X2_expect  (p1 : Int32) (s0 : zMem) : Option (Unit × zMem) :=
  if (s0 5 7) = p1 then
    bd (f_X2_readToken s0) fun _ s4 =>
    some ((), s4)
  else
    bd (f_X2_fail s0) fun _ s2 =>
    some ((), s2)
def f_X5_heatOfAll_4 (w : Nat)  : Nat → Int32 → Int32 → zMem → Option (Int32 × zMem)
  | 0, _, _, _ => none
  | n + 1, x1, x2, s3 =>
    if (s3 w 9) ≤ x2 then
      some (x1, s3)
    else
      gd (zib x2 6) <|
      nm (x1 + (s3 (w + 1) (zix x2))) fun x4 =>
      nm (x2 + 1) fun x5 =>
      f_X5_heatOfAll_4 w n x4 x5 s3
def f_X5_heatOfAll (w : Nat)  (s0 : zMem) : Option (Int32 × zMem) :=
  f_X5_heatOfAll_4 w zN 0 0 s0
def f_X6_count  (p1 : Int32) (s0 : zMem) : Option (Int32 × zMem) :=
  if p1 = 0 then
    some (s0 9 9, s0)
  else if p1 = 1 then
    some (s0 9 10, s0)
  else if p1 = 2 then
    some (s0 9 11, s0)
  else if p1 = 3 then
    bd (f_X5_heatOfAll 9 s0) fun r1 s2 =>
    some (r1, s2)
  else if p1 = 4 then
    some (s0 1 3, s0)
  else if p1 = 5 then
    some (s0 9 12, s0)
  else if p1 = 6 then
    some (s0 5 1, s0)
  else
    some ((-2), s0)
def f_X2_takeByte  (p1 : Int32) (s0 : zMem) : Option (Unit × zMem) :=
  if 160 ≤ (s0 5 1) then
    some ((), s0)
  else
    gd (zib (s0 5 1) 160) <|
    nm (zUp s0 6 (zix (s0 5 1)) p1) fun s1 =>
    nm (zUp s1 5 1 ((s1 5 1) + 1)) fun s2 =>
    some ((), s2)
def f_X6_isByte  (p1 : Int32) (s0 : zMem) : Option (Int32 × zMem) :=
  bd (f_X6_isFromTo p1 0 255 s0) fun r1 s2 =>
  gd (z01 r1) <|
  some (r1, s2)
def f_X6_feed_103   (x20 : Int32) (x21 : Int32) (x22 : Int32) (s23 : zMem) : Option (Int32 × zMem) :=
  if x20 ≤ 3 then
    if x20 ≤ 4 then
      some (s23 5 1, s23)
    else
      bd (f_X2_takeByte x22 s23) fun _ s25 =>
      some (s25 5 1, s25)
  else
    bd (f_X2_takeByte x21 s23) fun _ s27 =>
    if x20 ≤ 4 then
      some (s27 5 1, s27)
    else
      bd (f_X2_takeByte x22 s27) fun _ s29 =>
      some (s29 5 1, s29)
def f_X6_feed_89   (x15 : Int32) (x16 : Int32) (x17 : Int32) (x18 : Int32) (s19 : zMem) : Option (Int32 × zMem) :=
  if x15 ≤ 2 then
    f_X6_feed_103 x15 x17 x18 s19
  else
    bd (f_X2_takeByte x16 s19) fun _ s31 =>
    f_X6_feed_103 x15 x17 x18 s31
def f_X6_feed  (p1 : Int32) (p2 : Int32) (p3 : Int32) (p4 : Int32) (p5 : Int32) (p6 : Int32) (s0 : zMem) : Option (Int32 × zMem) :=
  bd (f_X6_isFromTo p1 1 5 s0) fun r1 s2 =>
  if r1 = 0 then
    some ((-2), s2)
  else
    bd (f_X6_isByte p2 s2) fun r3 s4 =>
    if r3 = 0 then
      some ((-2), s4)
    else
      bd (f_X6_isByte p3 s4) fun r5 s6 =>
      if r5 = 0 then
        some ((-2), s6)
      else
        bd (f_X6_isByte p4 s6) fun r7 s8 =>
        if r7 = 0 then
          some ((-2), s8)
        else
          bd (f_X6_isByte p5 s8) fun r9 s10 =>
          if r9 = 0 then
            some ((-2), s10)
          else
            bd (f_X6_isByte p6 s10) fun r11 s12 =>
            if r11 = 0 then
              some ((-2), s12)
            else
              if ((s12 5 1) + p1) ≤ 160 then
                bd (f_X2_takeByte p2 s12) fun _ s14 =>
                if p1 ≤ 1 then
                  f_X6_feed_89 p1 p4 p5 p6 s14
                else
                  bd (f_X2_takeByte p3 s14) fun _ s33 =>
                  f_X6_feed_89 p1 p4 p5 p6 s33
              else
                some ((-4), s12)
def f_X2_clear   (s0 : zMem) : Option (Unit × zMem) :=
  nm (zUp s0 5 1 0) fun s1 =>
  some ((), s1)
def f_X2_readOr_7 (rc : Nat → Int32 → zMem → Option (Unit × zMem))  : Nat → Int32 → Int32 → zMem → Option (Unit × zMem)
  | 0, _, _, _ => none
  | n + 1, x3, x4, s5 =>
    if 160 ≤ x4 then
      some ((), s5)
    else
      if (s5 5 7) = 7 then
        bd (f_X2_readToken s5) fun _ s7 =>
        bd (rc 1 x3 s7) fun _ s9 =>
        bd (f_X2_emit (-27) s9) fun _ s11 =>
        nm (x4 + 1) fun x12 =>
        f_X2_readOr_7 rc n x3 x12 s11
      else
        some ((), s5)
def fb_X2_readOr (rc : Nat → Int32 → zMem → Option (Unit × zMem)) (p1 : Int32) (s0 : zMem) : Option (Unit × zMem) :=
  bd (rc 1 p1 s0) fun _ s2 =>
  f_X2_readOr_7 rc zN p1 0 s2
def f_X2_readAnd_7 (rc : Nat → Int32 → zMem → Option (Unit × zMem))  : Nat → Int32 → Int32 → zMem → Option (Unit × zMem)
  | 0, _, _, _ => none
  | n + 1, x3, x4, s5 =>
    if 160 ≤ x4 then
      some ((), s5)
    else
      if (s5 5 7) = 8 then
        bd (f_X2_readToken s5) fun _ s7 =>
        bd (rc 2 x3 s7) fun _ s9 =>
        bd (f_X2_emit (-26) s9) fun _ s11 =>
        nm (x4 + 1) fun x12 =>
        f_X2_readAnd_7 rc n x3 x12 s11
      else
        some ((), s5)
def fb_X2_readAnd (rc : Nat → Int32 → zMem → Option (Unit × zMem)) (p1 : Int32) (s0 : zMem) : Option (Unit × zMem) :=
  bd (rc 2 p1 s0) fun _ s2 =>
  f_X2_readAnd_7 rc zN p1 0 s2
def f_X2_readNot_54 (rc : Nat → Int32 → zMem → Option (Unit × zMem))  (x3 : Int32) (s4 : zMem) : Option (Unit × zMem) :=
  if (s4 5 7) = 60 then
    bd (f_X2_readToken s4) fun _ s12 =>
    bd (rc 3 x3 s12) fun _ s14 =>
    bd (f_X2_emit (-24) s14) fun _ s16 =>
    some ((), s16)
  else
    bd (f_X2_readToken s4) fun _ s6 =>
    bd (rc 3 x3 s6) fun _ s8 =>
    bd (f_X2_emit (-25) s8) fun _ s10 =>
    some ((), s10)
def fb_X2_readNot (rc : Nat → Int32 → zMem → Option (Unit × zMem)) (p1 : Int32) (s0 : zMem) : Option (Unit × zMem) :=
  if (s0 5 7) = 9 then
    bd (f_X2_opens p1 s0) fun r17 s18 =>
    if r17 = 0 then
      some ((), s18)
    else
      bd (rc 2 (p1 + 1) s18) fun _ s20 =>
      bd (f_X2_emit (-12) s20) fun _ s22 =>
      some ((), s22)
  else
    bd (rc 3 p1 s0) fun _ s2 =>
    if (s2 5 7) = 60 then
      f_X2_readNot_54 rc p1 s2
    else
      if (s2 5 7) = 61 then
        f_X2_readNot_54 rc p1 s2
      else
        some ((), s2)
def f_X2_readSum_32 (rc : Nat → Int32 → zMem → Option (Unit × zMem)) (c7 : Int32 → Int32 → zMem → Option (Unit × zMem)) (x6 : Int32) (x7 : Int32) (s8 : zMem) : Option (Unit × zMem) :=
  if (s8 5 7) = 43 then
    bd (f_X2_readToken s8) fun _ s17 =>
    bd (rc 4 x6 s17) fun _ s19 =>
    bd (f_X2_emit (-21) s19) fun _ s21 =>
    nm (x7 + 1) fun x22 =>
    c7 x6 x22 s21
  else
    bd (f_X2_readToken s8) fun _ s10 =>
    bd (rc 4 x6 s10) fun _ s12 =>
    bd (f_X2_emit (-22) s12) fun _ s14 =>
    nm (x7 + 1) fun x15 =>
    c7 x6 x15 s14
def f_X2_readSum_7 (rc : Nat → Int32 → zMem → Option (Unit × zMem))  : Nat → Int32 → Int32 → zMem → Option (Unit × zMem)
  | 0, _, _, _ => none
  | n + 1, x3, x4, s5 =>
    if 160 ≤ x4 then
      some ((), s5)
    else
      if (s5 5 7) = 43 then
        f_X2_readSum_32 rc (fun x23 x24 s25 =>
          f_X2_readSum_7 rc n x23 x24 s25) x3 x4 s5
      else
        if (s5 5 7) = 45 then
          f_X2_readSum_32 rc (fun x26 x27 s28 =>
            f_X2_readSum_7 rc n x26 x27 s28) x3 x4 s5
        else
          some ((), s5)
def fb_X2_readSum (rc : Nat → Int32 → zMem → Option (Unit × zMem)) (p1 : Int32) (s0 : zMem) : Option (Unit × zMem) :=
  bd (rc 4 p1 s0) fun _ s2 =>
  f_X2_readSum_7 rc zN p1 0 s2
def f_X2_readTerm_7 (rc : Nat → Int32 → zMem → Option (Unit × zMem))  : Nat → Int32 → Int32 → zMem → Option (Unit × zMem)
  | 0, _, _, _ => none
  | n + 1, x3, x4, s5 =>
    if 160 ≤ x4 then
      some ((), s5)
    else
      if (s5 5 7) = 42 then
        bd (f_X2_readToken s5) fun _ s7 =>
        bd (rc 5 x3 s7) fun _ s9 =>
        bd (f_X2_emit (-23) s9) fun _ s11 =>
        nm (x4 + 1) fun x12 =>
        f_X2_readTerm_7 rc n x3 x12 s11
      else
        some ((), s5)
def fb_X2_readTerm (rc : Nat → Int32 → zMem → Option (Unit × zMem)) (p1 : Int32) (s0 : zMem) : Option (Unit × zMem) :=
  bd (rc 5 p1 s0) fun _ s2 =>
  f_X2_readTerm_7 rc zN p1 0 s2
def f_X2_readOne_16 (rc : Nat → Int32 → zMem → Option (Unit × zMem))  (s1 : zMem) : Option (Unit × zMem) :=
  if (s1 5 7) = 2 then
    bd (f_X2_emit (s1 5 8) s1) fun _ s9 =>
    bd (f_X2_readToken s9) fun _ s11 =>
    some ((), s11)
  else
    bd (f_X0_ofName (s1 5 8) s1) fun r2 s3 =>
    bd (f_X2_emit r2 s3) fun _ s5 =>
    bd (f_X2_readToken s5) fun _ s7 =>
    some ((), s7)
def fb_X2_readOne (rc : Nat → Int32 → zMem → Option (Unit × zMem)) (p1 : Int32) (s0 : zMem) : Option (Unit × zMem) :=
  if (s0 5 7) = 2 then
    f_X2_readOne_16 rc s0
  else
    if (s0 5 7) = 3 then
      f_X2_readOne_16 rc s0
    else
      if (s0 5 7) = 45 then
        bd (f_X2_opens p1 s0) fun r20 s21 =>
        if r20 = 0 then
          some ((), s21)
        else
          bd (rc 5 (p1 + 1) s21) fun _ s23 =>
          bd (f_X2_emit (-11) s23) fun _ s25 =>
          some ((), s25)
      else
        if (s0 5 7) = 40 then
          bd (f_X2_opens p1 s0) fun r14 s15 =>
          if r14 = 0 then
            some ((), s15)
          else
            bd (rc 0 (p1 + 1) s15) fun _ s17 =>
            bd (f_X2_expect 41 s17) fun _ s19 =>
            some ((), s19)
        else
          bd (f_X2_fail s0) fun _ s13 =>
          some ((), s13)
def f_rd : Nat → Nat → Int32 → zMem → Option (Unit × zMem)
  | 0, _, _, _ => none
  | n + 1, k, o, s =>
    if k = 0 then fb_X2_readOr (f_rd n) o s
    else if k = 1 then fb_X2_readAnd (f_rd n) o s
    else if k = 2 then fb_X2_readNot (f_rd n) o s
    else if k = 3 then fb_X2_readSum (f_rd n) o s
    else if k = 4 then fb_X2_readTerm (f_rd n) o s
    else if k = 5 then fb_X2_readOne (f_rd n) o s
    else none
def f_X2_readText_21  (c60 : zMem → Option (Int32 × zMem)) : Nat → Int32 → zMem → Option (Int32 × zMem)
  | 0, _, _ => none
  | n + 1, x6, s7 =>
    if 3 ≤ x6 then
      c60 s7
    else
      bd (f_X2_expect (4 + x6) s7) fun _ s9 =>
      bd (f_rd 60 0 0 s9) fun _ s11 =>
      bd (f_X2_expect 59 s11) fun _ s13 =>
      gd (zib x6 3) <|
      nm (zUp s13 8 (zix x6) (s13 5 3)) fun s14 =>
      nm (x6 + 1) fun x15 =>
      f_X2_readText_21 c60 n x15 s14
def f_X2_readText   (s0 : zMem) : Option (Int32 × zMem) :=
  nm (zUp s0 5 5 0) fun s1 =>
  nm (zUp s1 5 3 0) fun s2 =>
  nm (zUp s2 5 9 (-1)) fun s3 =>
  bd (f_X2_readToken s3) fun _ s5 =>
  f_X2_readText_21 (fun s16 =>
    bd (f_X2_expect 0 s16) fun _ s18 =>
    some (s18 5 9, s18)) zN 0 s5
def f_X4_keep   (s0 : zMem) : Option (Int32 × zMem) :=
  if (s0 1 3) < 6 then
    gd (zcpOk 0 ((s0 1 3) * 160) 160 160 960) <|
    nm (zCp s0 7 (zix 0) 2 (zix ((s0 1 3) * 160)) (zix 160)) fun s1 =>
    gd (zcpOk 0 ((s1 1 3) * 3) 3 3 18) <|
    nm (zCp s1 8 (zix 0) 3 (zix ((s1 1 3) * 3)) (zix 3)) fun s2 =>
    nm (zUp s2 1 3 ((s2 1 3) + 1)) fun s3 =>
    some ((s3 1 3) - 1, s3)
  else
    some ((-4), s0)
def f_X6_text   (s0 : zMem) : Option (Int32 × zMem) :=
  if (s0 1 3) < 6 then
    bd (f_X2_readText s0) fun r1 s2 =>
    if r1 = (-1) then
      bd (f_X4_keep s2) fun r6 s7 =>
      bd (f_X2_clear s7) fun _ s9 =>
      some (r6, s9)
    else
      nm ((-100) - r1) fun x3 =>
      bd (f_X2_clear s2) fun _ s5 =>
      some (x3, s5)
  else
    some ((-4), s0)
def f_X6_force  (p1 : Int32) (s0 : zMem) : Option (Int32 × zMem) :=
  bd (f_X6_isFromTo p1 0 ((s0 1 3) - 1) s0) fun r1 s2 =>
  if r1 = 0 then
    some ((-2), s2)
  else
    nm (s2 9 12) fun x3 =>
    nm (zUp s2 9 12 p1) fun s4 =>
    some (x3, s4)
def f_X5_isHut (w : Nat) (p1 : Int32) (s0 : zMem) : Option (Int32 × zMem) :=
  if p1 < 0 then
    some (0, s0)
  else
    if (s0 w 9) ≤ p1 then
      some (0, s0)
    else
      some (1, s0)
def f_X0_isName  (p1 : Int32) (s0 : zMem) : Option (Int32 × zMem) :=
  if (-1) < p1 then
    some (0, s0)
  else
    if p1 ≤ (-7) then
      some (0, s0)
    else
      some (1, s0)
def f_X0_isOfOne  (p1 : Int32) (s0 : zMem) : Option (Int32 × zMem) :=
  if p1 = (-11) then
    some (1, s0)
  else
    if p1 = (-12) then
      some (1, s0)
    else
      some (0, s0)
def f_X0_isOfTwo  (p1 : Int32) (s0 : zMem) : Option (Int32 × zMem) :=
  if (-21) < p1 then
    some (0, s0)
  else
    if p1 < (-27) then
      some (0, s0)
    else
      some (1, s0)
def f_X0_ofOne  (p1 : Int32) (p2 : Int32) (s0 : zMem) : Option (Int32 × zMem) :=
  if p1 = (-11) then
    some (-p2, s0)
  else
    if p2 = 0 then
      some (1, s0)
    else
      some (0, s0)
def f_X0_ofTwo  (p1 : Int32) (p2 : Int32) (p3 : Int32) (s0 : zMem) : Option (Int32 × zMem) :=
  if p1 = (-26) then
    if p2 = 0 then
      some (0, s0)
    else
      if p3 = 0 then
        some (0, s0)
      else
        some (1, s0)
  else if p1 = (-25) then
    if p2 = p3 then
      some (1, s0)
    else
      some (0, s0)
  else if p1 = (-24) then
    if p3 ≤ p2 then
      some (0, s0)
    else
      some (1, s0)
  else if p1 = (-23) then
    some (p2 * p3, s0)
  else if p1 = (-22) then
    some (p2 - p3, s0)
  else if p1 = (-21) then
    some (p2 + p3, s0)
  else if p2 = 0 then
    if p3 = 0 then
      some (0, s0)
    else
      some (1, s0)
  else
    some (1, s0)
def f_X4_valueOf_150 (a3 : Nat) (c53 : Int32 → Int32 → Int32 → zMem → Option (Int32 × zMem)) (x23 : Int32) (x24 : Int32) (x25 : Int32) (x26 : Int32) (x27 : Int32) (s28 : zMem) : Option (Int32 × zMem) :=
  bd (f_X0_isName x26 s28) fun r29 s30 =>
  if r29 = 0 then
    if 160 ≤ x24 then
      nm (x25 + 1) fun x31 =>
      c53 x23 x24 x31 s30
    else
      gd (zib x24 160) <|
      nm (zUp s30 4 (zix x24) x27) fun s32 =>
      nm (x24 + 1) fun x33 =>
      nm (x25 + 1) fun x34 =>
      c53 x23 x33 x34 s32
  else
    bd (f_X0_ofName x26 s30) fun r35 s36 =>
    gd (zib r35 6) <|
    nm (s36 a3 (zix r35)) fun x37 =>
    if 160 ≤ x24 then
      nm (x25 + 1) fun x38 =>
      c53 x23 x24 x38 s36
    else
      gd (zib x24 160) <|
      nm (zUp s36 4 (zix x24) x37) fun s39 =>
      nm (x24 + 1) fun x40 =>
      nm (x25 + 1) fun x41 =>
      c53 x23 x40 x41 s39
def f_X4_valueOf_116 (a3 : Nat) (c53 : Int32 → Int32 → Int32 → zMem → Option (Int32 × zMem)) (x15 : Int32) (x16 : Int32) (x17 : Int32) (x18 : Int32) (x19 : Int32) (s20 : zMem) : Option (Int32 × zMem) :=
  bd (f_X0_isOfOne x18 s20) fun r21 s22 =>
  if r21 = 0 then
    f_X4_valueOf_150 a3 (fun x42 x43 x44 s45 =>
      c53 x42 x43 x44 s45) x15 x16 x17 x18 x19 s22
  else
    if x16 < 1 then
      f_X4_valueOf_150 a3 (fun x46 x47 x48 s49 =>
        c53 x46 x47 x48 s49) x15 x16 x17 x18 x19 s22
    else
      nm (x16 + (-1)) fun x50 =>
      gd (zib x50 160) <|
      bd (f_X0_ofOne x18 (s22 4 (zix x50)) s22) fun r51 s52 =>
      if 160 ≤ x50 then
        nm (x17 + 1) fun x53 =>
        c53 x15 x50 x53 s52
      else
        gd (zib x50 160) <|
        nm (zUp s52 4 (zix x50) r51) fun s54 =>
        nm (x50 + 1) fun x55 =>
        nm (x17 + 1) fun x56 =>
        c53 x15 x55 x56 s54
def f_X4_valueOf_53 (a3 : Nat) (c195 : Int32 → zMem → Option (Int32 × zMem)) : Nat → Int32 → Int32 → Int32 → zMem → Option (Int32 × zMem)
  | 0, _, _, _, _ => none
  | n + 1, x8, x9, x10, s11 =>
    if x8 ≤ x10 then
      c195 x9 s11
    else
      gd (zib x10 960) <|
      nm (s11 2 (zix x10)) fun x12 =>
      bd (f_X0_isOfTwo x12 s11) fun r13 s14 =>
      if r13 = 0 then
        f_X4_valueOf_116 a3 (fun x57 x58 x59 s60 =>
          f_X4_valueOf_53 a3 c195 n x57 x58 x59 s60) x8 x9 x10 x12 x12 s14
      else
        if x9 < 2 then
          f_X4_valueOf_116 a3 (fun x61 x62 x63 s64 =>
            f_X4_valueOf_53 a3 c195 n x61 x62 x63 s64) x8 x9 x10 x12 x12 s14
        else
          nm (x9 + (-2)) fun x65 =>
          gd (zib x65 160) <|
          gd (zib (x65 + 1) 160) <|
          bd (f_X0_ofTwo x12 (s14 4 (zix x65)) (s14 4 (zix (x65 + 1))) s14) fun r66 s67 =>
          if 160 ≤ x65 then
            nm (x10 + 1) fun x68 =>
            f_X4_valueOf_53 a3 c195 n x8 x65 x68 s67
          else
            gd (zib x65 160) <|
            nm (zUp s67 4 (zix x65) r66) fun s69 =>
            nm (x65 + 1) fun x70 =>
            nm (x10 + 1) fun x71 =>
            f_X4_valueOf_53 a3 c195 n x8 x70 x71 s69
def f_X4_valueOf_25 (a3 : Nat)  (x1 : Int32) (x2 : Int32) (t3 : Int32) (t4 : Int32) (s5 : zMem) : Option (Int32 × zMem) :=
  nm (t4 + t3) fun x6 =>
  gd (zib ((x1 * 3) + x2) 18) <|
  nm ((x1 * 160) + (s5 3 (zix ((x1 * 3) + x2)))) fun x7 =>
  f_X4_valueOf_53 a3 (fun x72 s73 =>
    if x72 ≤ 0 then
      some (0, s73)
    else
      gd (zib 0 160) <|
      some (s73 4 (zix 0), s73)) zN x7 0 x6 s5
def f_X4_valueOf (a3 : Nat) (p1 : Int32) (p2 : Int32) (s0 : zMem) : Option (Int32 × zMem) :=
  if p2 = 0 then
    f_X4_valueOf_25 a3 p1 p2 0 (p1 * 160) s0
  else
    gd (zib (((p1 * 3) + p2) - 1) 18) <|
    f_X4_valueOf_25 a3 p1 p2 (s0 3 (zix (((p1 * 3) + p2) - 1))) (p1 * 160) s0
def f_X5_coalsWhere_5 (w : Nat) (a1 : Nat)  : Nat → Int32 → Int32 → Int32 → zMem → Option (Int32 × zMem)
  | 0, _, _, _, _ => none
  | n + 1, x1, x2, x3, s4 =>
    if (s4 w 10) ≤ x3 then
      some (x2, s4)
    else
      gd (zib x3 10) <|
      if (s4 a1 (zix x3)) = x1 then
        gd (zib x3 10) <|
        nm (x2 + (s4 (w + 8) (zix x3))) fun x6 =>
        nm (x3 + 1) fun x7 =>
        f_X5_coalsWhere_5 w a1 n x1 x6 x7 s4
      else
        nm (x3 + 1) fun x5 =>
        f_X5_coalsWhere_5 w a1 n x1 x2 x5 s4
def f_X5_coalsWhere (w : Nat) (a1 : Nat) (p2 : Int32) (s0 : zMem) : Option (Int32 × zMem) :=
  f_X5_coalsWhere_5 w a1 zN p2 0 0 s0
def f_X5_owes (w : Nat) (p1 : Int32) (s0 : zMem) : Option (Int32 × zMem) :=
  bd (f_X5_coalsWhere w (w + 7) p1 s0) fun r1 s2 =>
  some (r1, s2)
def f_X5_says (w : Nat) (p1 : Int32) (p2 : Int32) (p3 : Int32) (s0 : zMem) : Option (Int32 × zMem) :=
  gd (zib p2 6) <|
  gd (zib 0 6) <|
  nm (zUp s0 (w + 10) (zix 0) (s0 (w + 1) (zix p2))) fun s1 =>
  gd (zib p2 6) <|
  gd (zib 1 6) <|
  nm (zUp s1 (w + 10) (zix 1) (s1 (w + 2) (zix p2))) fun s2 =>
  gd (zib 2 6) <|
  nm (zUp s2 (w + 10) (zix 2) (s2 w 11)) fun s3 =>
  gd (zib 3 6) <|
  nm (zUp s3 (w + 10) (zix 3) p3) fun s4 =>
  bd (f_X5_owes w p2 s4) fun r5 s6 =>
  gd (zib 4 6) <|
  nm (zUp s6 (w + 10) (zix 4) r5) fun s7 =>
  gd (zib p2 6) <|
  gd (zib 5 6) <|
  nm (zUp s7 (w + 10) (zix 5) (s7 (w + 5) (zix p2))) fun s8 =>
  bd (f_X4_valueOf (w + 10) (s8 w 12) p1 s8) fun r9 s10 =>
  some (zmax 0 (zmin 99 r9), s10)
def f_X6_asks  (p1 : Int32) (p2 : Int32) (p3 : Int32) (s0 : zMem) : Option (Int32 × zMem) :=
  bd (f_X6_isFromTo p1 0 2 s0) fun r1 s2 =>
  if r1 = 0 then
    some ((-2), s2)
  else
    bd (f_X5_isHut 9 p2 s2) fun r3 s4 =>
    if r3 = 0 then
      some ((-2), s4)
    else
      bd (f_X6_isFromTo p3 0 9999 s4) fun r5 s6 =>
      if r5 = 0 then
        some ((-2), s6)
      else
        bd (f_X5_says 9 p1 p2 p3 s6) fun r7 s8 =>
        some (r7, s8)
def f_X5_comes (w : Nat) (p1 : Int32) (p2 : Int32) (s0 : zMem) : Option (Int32 × zMem) :=
  bd (f_X6_isFromTo p1 0 59 s0) fun r1 s2 =>
  if r1 = 0 then
    some ((-2), s2)
  else
    bd (f_X6_isFromTo p2 0 999999 s2) fun r3 s4 =>
    if r3 = 0 then
      some ((-2), s4)
    else
      if (s4 w 9) < 6 then
        gd (zib (s4 w 9) 6) <|
        nm (zUp s4 (w + 4) (zix (s4 w 9)) (p1 / 10)) fun s5 =>
        gd (zib (s5 w 9) 6) <|
        nm (zUp s5 (w + 5) (zix (s5 w 9)) (zrem p1 10)) fun s6 =>
        gd (zib (s6 w 9) 6) <|
        nm (zUp s6 (w + 1) (zix (s6 w 9)) (p2 / 100)) fun s7 =>
        gd (zib (s7 w 9) 6) <|
        nm (zUp s7 (w + 2) (zix (s7 w 9)) (zrem p2 100)) fun s8 =>
        gd (zib (s8 w 9) 6) <|
        nm (zUp s8 (w + 3) (zix (s8 w 9)) 0) fun s9 =>
        nm (zUp s9 w 9 ((s9 w 9) + 1)) fun s10 =>
        some ((s10 w 9) - 1, s10)
      else
        some ((-4), s4)
def f_X6_hut  (p1 : Int32) (p2 : Int32) (s0 : zMem) : Option (Int32 × zMem) :=
  bd (f_X5_comes 9 p1 p2 s0) fun r1 s2 =>
  some (r1, s2)
def f_X5_become (w : Nat) (p1 : Int32) (p2 : Int32) (p3 : Int32) (s0 : zMem) : Option (Unit × zMem) :=
  if p2 = 0 then
    gd (zib p1 6) <|
    nm (zUp s0 (w + 1) (zix p1) p3) fun s1 =>
    some ((), s1)
  else if p2 = 1 then
    gd (zib p1 6) <|
    nm (zUp s0 (w + 2) (zix p1) p3) fun s2 =>
    some ((), s2)
  else
    gd (zib p1 6) <|
    nm (zUp s0 (w + 3) (zix p1) p3) fun s3 =>
    some ((), s3)
def f_X5_stateOf (w : Nat) (p1 : Int32) (p2 : Int32) (s0 : zMem) : Option (Int32 × zMem) :=
  if p2 = 0 then
    gd (zib p1 6) <|
    some (s0 (w + 1) (zix p1), s0)
  else if p2 = 1 then
    gd (zib p1 6) <|
    some (s0 (w + 2) (zix p1), s0)
  else
    gd (zib p1 6) <|
    some (s0 (w + 3) (zix p1), s0)
def f_X6_mostOf  (p1 : Int32) (s0 : zMem) : Option (Int32 × zMem) :=
  if p1 = 0 then
    some (9999, s0)
  else if p1 = 1 then
    some (99, s0)
  else
    some (99, s0)
def f_X6_put  (p1 : Int32) (p2 : Int32) (p3 : Int32) (s0 : zMem) : Option (Int32 × zMem) :=
  bd (f_X5_isHut 9 p1 s0) fun r1 s2 =>
  if r1 = 0 then
    some ((-5), s2)
  else
    bd (f_X6_isFromTo p2 0 2 s2) fun r3 s4 =>
    if r3 = 0 then
      some ((-7), s4)
    else
      bd (f_X6_mostOf p2 s4) fun r5 s6 =>
      bd (f_X6_isFromTo p3 0 r5 s6) fun r7 s8 =>
      if r7 = 0 then
        some ((-7), s8)
      else
        bd (f_X5_stateOf 9 p1 p2 s8) fun r9 s10 =>
        bd (f_X5_become 9 p1 p2 p3 s10) fun _ s12 =>
        some (r9, s12)
def f_X5_isOwed (w : Nat) (p1 : Int32) (s0 : zMem) : Option (Int32 × zMem) :=
  bd (f_X5_coalsWhere w (w + 6) p1 s0) fun r1 s2 =>
  some (r1, s2)
def f_X5_loansFrom_4 (w : Nat)  : Nat → Int32 → Int32 → Int32 → zMem → Option (Int32 × zMem)
  | 0, _, _, _, _ => none
  | n + 1, x1, x2, x3, s4 =>
    if (s4 w 10) ≤ x3 then
      some (x2, s4)
    else
      gd (zib x3 10) <|
      if (s4 (w + 6) (zix x3)) = x1 then
        nm (x2 + 1) fun x6 =>
        nm (x3 + 1) fun x7 =>
        f_X5_loansFrom_4 w n x1 x6 x7 s4
      else
        nm (x3 + 1) fun x5 =>
        f_X5_loansFrom_4 w n x1 x2 x5 s4
def f_X5_loansFrom (w : Nat) (p1 : Int32) (s0 : zMem) : Option (Int32 × zMem) :=
  f_X5_loansFrom_4 w zN p1 0 0 s0
def f_X6_told  (p1 : Int32) (p2 : Int32) (s0 : zMem) : Option (Int32 × zMem) :=
  bd (f_X5_isHut 9 p1 s0) fun r1 s2 =>
  if r1 = 0 then
    some ((-5), s2)
  else
    if p2 = 0 then
      bd (f_X5_stateOf 9 p1 p2 s2) fun r3 s4 =>
      some (r3, s4)
    else if p2 = 1 then
      bd (f_X5_stateOf 9 p1 p2 s2) fun r5 s6 =>
      some (r5, s6)
    else if p2 = 2 then
      bd (f_X5_stateOf 9 p1 p2 s2) fun r7 s8 =>
      some (r7, s8)
    else if p2 = 3 then
      gd (zib p1 6) <|
      some (s2 13 (zix p1), s2)
    else if p2 = 4 then
      gd (zib p1 6) <|
      some (s2 14 (zix p1), s2)
    else if p2 = 5 then
      bd (f_X5_owes 9 p1 s2) fun r9 s10 =>
      some (r9, s10)
    else if p2 = 6 then
      bd (f_X5_isOwed 9 p1 s2) fun r11 s12 =>
      some (r11, s12)
    else if p2 = 7 then
      bd (f_X5_loansFrom 9 p1 s2) fun r13 s14 =>
      some (r13, s14)
    else
      some ((-7), s2)
def f_X5_pass (w : Nat) (p1 : Int32) (p2 : Int32) (p3 : Int32) (s0 : zMem) : Option (Unit × zMem) :=
  gd (zib p1 6) <|
  gd (zib p1 6) <|
  nm (zUp s0 (w + 1) (zix p1) ((s0 (w + 1) (zix p1)) - p3)) fun s1 =>
  gd (zib p2 6) <|
  gd (zib p2 6) <|
  nm (zUp s1 (w + 1) (zix p2) (zmin 9999 ((s1 (w + 1) (zix p2)) + p3))) fun s2 =>
  some ((), s2)
def f_X5_lends (w : Nat) (p1 : Int32) (p2 : Int32) (p3 : Int32) (p4 : Int32) (s0 : zMem) : Option (Int32 × zMem) :=
  if (s0 w 10) < 10 then
    gd (zib p1 6) <|
    if 0 < (s0 (w + 3) (zix p1)) then
      some ((-3), s0)
    else
      gd (zib p1 6) <|
      if p3 ≤ (s0 (w + 1) (zix p1)) then
        bd (f_X5_pass w p1 p2 p3 s0) fun _ s2 =>
        gd (zib (s2 w 10) 10) <|
        nm (zUp s2 (w + 6) (zix (s2 w 10)) p1) fun s3 =>
        gd (zib (s3 w 10) 10) <|
        nm (zUp s3 (w + 7) (zix (s3 w 10)) p2) fun s4 =>
        gd (zib (s4 w 10) 10) <|
        nm (zUp s4 (w + 8) (zix (s4 w 10)) p3) fun s5 =>
        gd (zib (s5 w 10) 10) <|
        nm (zUp s5 (w + 9) (zix (s5 w 10)) ((s5 w 11) + p4)) fun s6 =>
        nm (zUp s6 w 10 ((s6 w 10) + 1)) fun s7 =>
        some ((s7 w 10) - 1, s7)
      else
        some ((-3), s0)
  else
    some ((-4), s0)
def f_X6_isCoalNights  (p1 : Int32) (p2 : Int32) (s0 : zMem) : Option (Int32 × zMem) :=
  if p1 < 0 then
    some (0, s0)
  else
    bd (f_X6_isFromTo (p1 / 100) 1 9999 s0) fun r1 s2 =>
    if r1 = 0 then
      some (0, s2)
    else
      bd (f_X6_isFromTo (zrem p1 100) 1 p2 s2) fun r3 s4 =>
      if r3 = 0 then
        some (0, s4)
      else
        some (1, s4)
def f_X6_lend  (p1 : Int32) (p2 : Int32) (s0 : zMem) : Option (Int32 × zMem) :=
  nm (p1 / 10) fun x1 =>
  nm (zrem p1 10) fun x2 =>
  if p1 < 0 then
    some ((-5), s0)
  else
    bd (f_X5_isHut 9 x1 s0) fun r3 s4 =>
    if r3 = 0 then
      some ((-5), s4)
    else
      bd (f_X5_isHut 9 x2 s4) fun r5 s6 =>
      if r5 = 0 then
        some ((-5), s6)
      else
        if x1 = x2 then
          some ((-5), s6)
        else
          bd (f_X6_isCoalNights p2 99 s6) fun r7 s8 =>
          if r7 = 0 then
            some ((-7), s8)
          else
            bd (f_X5_lends 9 x1 x2 (p2 / 100) (zrem p2 100) s8) fun r9 s10 =>
            some (r9, s10)
def f_X5_isLoan (w : Nat) (p1 : Int32) (s0 : zMem) : Option (Int32 × zMem) :=
  if p1 < 0 then
    some (0, s0)
  else
    if (s0 w 10) ≤ p1 then
      some (0, s0)
    else
      some (1, s0)
def f_X6_loan  (p1 : Int32) (p2 : Int32) (s0 : zMem) : Option (Int32 × zMem) :=
  bd (f_X5_isLoan 9 p1 s0) fun r1 s2 =>
  if r1 = 0 then
    some ((-5), s2)
  else
    if p2 = 0 then
      gd (zib p1 10) <|
      some (s2 15 (zix p1), s2)
    else if p2 = 1 then
      gd (zib p1 10) <|
      some (s2 16 (zix p1), s2)
    else if p2 = 2 then
      gd (zib p1 10) <|
      some (s2 17 (zix p1), s2)
    else if p2 = 3 then
      gd (zib p1 10) <|
      some (s2 18 (zix p1), s2)
    else
      some ((-7), s2)
def f_X5_canRepay (w : Nat) (p1 : Int32) (s0 : zMem) : Option (Int32 × zMem) :=
  gd (zib p1 10) <|
  gd (zib (s0 (w + 7) (zix p1)) 6) <|
  gd (zib p1 10) <|
  if (s0 (w + 1) (zix (s0 (w + 7) (zix p1)))) < (s0 (w + 8) (zix p1)) then
    some (0, s0)
  else
    some (1, s0)
def f_X5_drop_12 (w : Nat)  : Nat → Int32 → zMem → Option (Unit × zMem)
  | 0, _, _ => none
  | n + 1, x2, s3 =>
    if (s3 w 10) ≤ x2 then
      some ((), s3)
    else
      gd (zib (x2 + 1) 10) <|
      gd (zib x2 10) <|
      nm (zUp s3 (w + 6) (zix x2) (s3 (w + 6) (zix (x2 + 1)))) fun s4 =>
      gd (zib (x2 + 1) 10) <|
      gd (zib x2 10) <|
      nm (zUp s4 (w + 7) (zix x2) (s4 (w + 7) (zix (x2 + 1)))) fun s5 =>
      gd (zib (x2 + 1) 10) <|
      gd (zib x2 10) <|
      nm (zUp s5 (w + 8) (zix x2) (s5 (w + 8) (zix (x2 + 1)))) fun s6 =>
      gd (zib (x2 + 1) 10) <|
      gd (zib x2 10) <|
      nm (zUp s6 (w + 9) (zix x2) (s6 (w + 9) (zix (x2 + 1)))) fun s7 =>
      nm (x2 + 1) fun x8 =>
      f_X5_drop_12 w n x8 s7
def f_X5_drop (w : Nat) (p1 : Int32) (s0 : zMem) : Option (Unit × zMem) :=
  nm (zUp s0 w 10 ((s0 w 10) - 1)) fun s1 =>
  f_X5_drop_12 w zN p1 s1
def f_X5_payBack (w : Nat) (p1 : Int32) (s0 : zMem) : Option (Unit × zMem) :=
  gd (zib p1 10) <|
  gd (zib p1 10) <|
  gd (zib p1 10) <|
  bd (f_X5_pass w (s0 (w + 7) (zix p1)) (s0 (w + 6) (zix p1)) (s0 (w + 8) (zix p1)) s0) fun _ s2 =>
  some ((), s2)
def f_X6_repay  (p1 : Int32) (s0 : zMem) : Option (Int32 × zMem) :=
  bd (f_X5_isLoan 9 p1 s0) fun r1 s2 =>
  if r1 = 0 then
    some ((-5), s2)
  else
    bd (f_X5_canRepay 9 p1 s2) fun r3 s4 =>
    if r3 = 0 then
      some ((-3), s4)
    else
      gd (zib p1 10) <|
      nm (s4 17 (zix p1)) fun x5 =>
      bd (f_X5_payBack 9 p1 s4) fun _ s7 =>
      bd (f_X5_drop 9 p1 s7) fun _ s9 =>
      some (x5, s9)
def f_X6_forgive  (p1 : Int32) (s0 : zMem) : Option (Int32 × zMem) :=
  bd (f_X5_isLoan 9 p1 s0) fun r1 s2 =>
  if r1 = 0 then
    some ((-5), s2)
  else
    gd (zib p1 10) <|
    nm (s2 17 (zix p1)) fun x3 =>
    bd (f_X5_drop 9 p1 s2) fun _ s5 =>
    some (x3, s5)
def f_X5_endDueLoans_9 (w : Nat)  : Nat → Int32 → Int32 → Int32 → zMem → Option (Int32 × zMem)
  | 0, _, _, _, _ => none
  | n + 1, x2, x3, x4, s5 =>
    if x4 ≤ 0 then
      some (x2, s5)
    else
      gd (zib x3 10) <|
      if (s5 (w + 9) (zix x3)) ≤ (s5 w 11) then
        bd (f_X5_canRepay w x3 s5) fun r6 s7 =>
        if r6 = 0 then
          gd (zib x3 10) <|
          gd (zib (s7 (w + 7) (zix x3)) 6) <|
          nm (zUp s7 (w + 3) (zix (s7 (w + 7) (zix x3))) 20) fun s8 =>
          gd (zib x3 10) <|
          nm (x2 ||| (1 <<< ((s8 (w + 7) (zix x3)) &&& 31))) fun x9 =>
          bd (f_X5_drop w x3 s8) fun _ s11 =>
          nm (x4 + (-1)) fun x12 =>
          f_X5_endDueLoans_9 w n x9 x3 x12 s11
        else
          bd (f_X5_payBack w x3 s7) fun _ s14 =>
          bd (f_X5_drop w x3 s14) fun _ s16 =>
          nm (x4 + (-1)) fun x17 =>
          f_X5_endDueLoans_9 w n x2 x3 x17 s16
      else
        nm (x3 + 1) fun x18 =>
        nm (x4 + (-1)) fun x19 =>
        f_X5_endDueLoans_9 w n x2 x18 x19 s5
def f_X5_endDueLoans (w : Nat)  (s0 : zMem) : Option (Int32 × zMem) :=
  nm (s0 w 10) fun x1 =>
  f_X5_endDueLoans_9 w zN 0 0 x1 s0
def f_X1_growth  (p1 : Int32) (p2 : Int32) (p3 : Int32) (p4 : Int32) (s0 : zMem) : Option (Int32 × zMem) :=
  if p1 = 1 then
    if p3 ≤ 50 then
      some (p4, s0)
    else
      some (p4 + p2, s0)
  else if p1 = 2 then
    some (p4, s0)
  else if p1 = 3 then
    if p3 ≤ 50 then
      some (p4, s0)
    else
      some (p4 + p2, s0)
  else if p1 = 4 then
    some ((2 * p4) + 1, s0)
  else if p1 = 5 then
    some (0, s0)
  else
    some (p4, s0)
def f_X5_grow (w : Nat) (p1 : Int32) (s0 : zMem) : Option (Unit × zMem) :=
  gd (zib p1 10) <|
  nm (s0 (w + 7) (zix p1)) fun x1 =>
  gd (zib x1 6) <|
  gd (zib x1 6) <|
  gd (zib p1 10) <|
  gd (zib p1 10) <|
  bd (f_X5_says w 0 x1 (s0 (w + 8) (zix p1)) s0) fun r2 s3 =>
  bd (f_X1_growth (s0 (w + 4) (zix x1)) (s0 (w + 5) (zix x1)) (s0 (w + 8) (zix p1)) r2 s3) fun r4 s5 =>
  gd (zib p1 10) <|
  gd (zib p1 10) <|
  nm (zUp s5 (w + 8) (zix p1) (zmin 9999 ((s5 (w + 8) (zix p1)) + r4))) fun s6 =>
  some ((), s6)
def f_X1_burning  (p1 : Int32) (p2 : Int32) (p3 : Int32) (p4 : Int32) (s0 : zMem) : Option (Int32 × zMem) :=
  if p1 = 2 then
    some (2 * p4, s0)
  else if p1 = 3 then
    some (p4 + p2, s0)
  else if p1 = 4 then
    if p2 ≤ p3 then
      some (2 * p4, s0)
    else
      some (0, s0)
  else if p1 = 5 then
    if (zrem p3 2) = 0 then
      some (0, s0)
    else
      some (30, s0)
  else
    some (p4, s0)
def f_X1_cooling  (p1 : Int32) (p2 : Int32) (p3 : Int32) (s0 : zMem) : Option (Int32 × zMem) :=
  if p1 = 1 then
    some (p3 / 2, s0)
  else if p1 = 2 then
    some (p3 + (p2 / 20), s0)
  else if p1 = 3 then
    if p2 ≤ 200 then
      some (p3 / 2, s0)
    else
      some (p2, s0)
  else if p1 = 4 then
    some (p3 + (p2 / 20), s0)
  else
    some (p3, s0)
def f_X5_warm_93 (w : Nat)  (x1 : Int32) (s2 : zMem) : Option (Unit × zMem) :=
  gd (zib x1 6) <|
  gd (zib x1 6) <|
  bd (f_X5_says w 1 x1 0 s2) fun r3 s4 =>
  bd (f_X1_cooling (s2 (w + 4) (zix x1)) (s2 (w + 1) (zix x1)) r3 s4) fun r5 s6 =>
  gd (zib x1 6) <|
  gd (zib x1 6) <|
  nm (zUp s6 (w + 1) (zix x1) (zmax 0 ((s6 (w + 1) (zix x1)) - r5))) fun s7 =>
  some ((), s7)
def f_X5_warm (w : Nat) (p1 : Int32) (s0 : zMem) : Option (Unit × zMem) :=
  gd (zib p1 6) <|
  if (s0 (w + 3) (zix p1)) ≤ 0 then
    gd (zib p1 6) <|
    if (s0 (w + 2) (zix p1)) ≤ 0 then
      f_X5_warm_93 w p1 s0
    else
      gd (zib p1 6) <|
      gd (zib p1 6) <|
      bd (f_X5_says w 2 p1 0 s0) fun r8 s9 =>
      bd (f_X1_burning (s0 (w + 4) (zix p1)) (s0 (w + 5) (zix p1)) (s0 w 11) r8 s9) fun r10 s11 =>
      gd (zib p1 6) <|
      gd (zib p1 6) <|
      nm (zUp s11 (w + 1) (zix p1) (zmin 9999 ((s11 (w + 1) (zix p1)) + r10))) fun s12 =>
      gd (zib p1 6) <|
      gd (zib p1 6) <|
      nm (zUp s12 (w + 2) (zix p1) ((s12 (w + 2) (zix p1)) - 1)) fun s13 =>
      f_X5_warm_93 w p1 s13
  else
    gd (zib p1 6) <|
    gd (zib p1 6) <|
    nm (zUp s0 (w + 3) (zix p1) ((s0 (w + 3) (zix p1)) - 1)) fun s14 =>
    gd (zib p1 6) <|
    nm (zUp s14 (w + 1) (zix p1) 0) fun s15 =>
    some ((), s15)
def f_X5_passNight_2 (w : Nat) (c21 : zMem → Option (Int32 × zMem)) : Nat → Int32 → zMem → Option (Int32 × zMem)
  | 0, _, _ => none
  | n + 1, x1, s2 =>
    if (s2 w 10) ≤ x1 then
      c21 s2
    else
      bd (f_X5_grow w x1 s2) fun _ s4 =>
      nm (x1 + 1) fun x5 =>
      f_X5_passNight_2 w c21 n x5 s4
def f_X5_passNight_28 (w : Nat) (c47 : Int32 → zMem → Option (Int32 × zMem)) : Nat → Int32 → Int32 → zMem → Option (Int32 × zMem)
  | 0, _, _, _ => none
  | n + 1, x9, x10, s11 =>
    if (s11 w 9) ≤ x10 then
      c47 x9 s11
    else
      bd (f_X5_warm w x10 s11) fun _ s13 =>
      nm (x10 + 1) fun x14 =>
      f_X5_passNight_28 w c47 n x9 x14 s13
def f_X5_passNight (w : Nat)  (s0 : zMem) : Option (Int32 × zMem) :=
  f_X5_passNight_2 w (fun s6 =>
    bd (f_X5_endDueLoans w s6) fun r7 s8 =>
    f_X5_passNight_28 w (fun x15 s16 =>
      nm (zUp s16 w 11 ((s16 w 11) + 1)) fun s17 =>
      some (x15, s17)) zN r7 0 s8) zN 0 s0
def f_X6_night   (s0 : zMem) : Option (Int32 × zMem) :=
  if (s0 9 11) < 999 then
    bd (f_X5_passNight 9 s0) fun r1 s2 =>
    some (r1, s2)
  else
    some ((-3), s0)
def f_X5_passNights_4 (w : Nat)  : Nat → Int32 → Int32 → Int32 → zMem → Option (Int32 × zMem)
  | 0, _, _, _, _ => none
  | n + 1, x1, x2, x3, s4 =>
    if x1 ≤ x3 then
      some (x2, s4)
    else
      bd (f_X5_passNight w s4) fun r5 s6 =>
      nm (x2 ||| r5) fun x7 =>
      nm (x3 + 1) fun x8 =>
      f_X5_passNights_4 w n x1 x7 x8 s6
def f_X5_passNights (w : Nat) (p1 : Int32) (s0 : zMem) : Option (Int32 × zMem) :=
  f_X5_passNights_4 w zN p1 0 0 s0
def f_X5_becomeAs (w : Nat) (a1 : Nat)  (s0 : zMem) : Option (Unit × zMem) :=
  gd (zcpOk 0 0 6 6 6) <|
  nm (zCp s0 (a1 + 1) (zix 0) (w + 1) (zix 0) (zix 6)) fun s1 =>
  gd (zcpOk 0 0 6 6 6) <|
  nm (zCp s1 (a1 + 2) (zix 0) (w + 2) (zix 0) (zix 6)) fun s2 =>
  gd (zcpOk 0 0 6 6 6) <|
  nm (zCp s2 (a1 + 3) (zix 0) (w + 3) (zix 0) (zix 6)) fun s3 =>
  gd (zcpOk 0 0 6 6 6) <|
  nm (zCp s3 (a1 + 4) (zix 0) (w + 4) (zix 0) (zix 6)) fun s4 =>
  gd (zcpOk 0 0 6 6 6) <|
  nm (zCp s4 (a1 + 5) (zix 0) (w + 5) (zix 0) (zix 6)) fun s5 =>
  gd (zcpOk 0 0 10 10 10) <|
  nm (zCp s5 (a1 + 6) (zix 0) (w + 6) (zix 0) (zix 10)) fun s6 =>
  gd (zcpOk 0 0 10 10 10) <|
  nm (zCp s6 (a1 + 7) (zix 0) (w + 7) (zix 0) (zix 10)) fun s7 =>
  gd (zcpOk 0 0 10 10 10) <|
  nm (zCp s7 (a1 + 8) (zix 0) (w + 8) (zix 0) (zix 10)) fun s8 =>
  gd (zcpOk 0 0 10 10 10) <|
  nm (zCp s8 (a1 + 9) (zix 0) (w + 9) (zix 0) (zix 10)) fun s9 =>
  nm (zUp s9 w 9 (s9 a1 9)) fun s10 =>
  nm (zUp s10 w 10 (s10 a1 10)) fun s11 =>
  nm (zUp s11 w 11 (s11 a1 11)) fun s12 =>
  nm (zUp s12 w 12 (s12 a1 12)) fun s13 =>
  some ((), s13)
def f_X6_think   (s0 : zMem) : Option (Unit × zMem) :=
  bd (f_X5_becomeAs 20 9 s0) fun _ s2 =>
  some ((), s2)
def f_X6_run_52   (x12 : Int32) (x13 : Int32) (s14 : zMem) : Option (Int32 × zMem) :=
  bd (f_X6_think s14) fun _ s16 =>
  bd (f_X5_passNights 20 x12 s16) fun r17 s18 =>
  if x13 = 0 then
    bd (f_X5_heatOfAll 20 s18) fun r19 s20 =>
    some (r19, s20)
  else if x13 = 1 then
    some (r17, s18)
  else if x13 = 2 then
    some (s18 20 10, s18)
  else
    gd (zib (x13 - 10) 6) <|
    some (s18 21 (zix (x13 - 10)), s18)
def f_X6_run_25   (x4 : Int32) (x5 : Int32) (t6 : Int32) (s7 : zMem) : Option (Int32 × zMem) :=
  bd (f_X6_isFromTo x4 0 40 s7) fun r8 s9 =>
  if r8 = 0 then
    some ((-2), s9)
  else
    bd (f_X6_isFromTo x5 0 2 s9) fun r10 s11 =>
    if r10 = 0 then
      if t6 = 0 then
        some ((-2), s11)
      else
        f_X6_run_52 x4 x5 s11
    else
      f_X6_run_52 x4 x5 s11
def f_X6_run_24   (x1 : Int32) (x2 : Int32) (s3 : zMem) : Option (Int32 × zMem) :=
  f_X6_run_25 x1 x2 0 s3
def f_X6_run  (p1 : Int32) (p2 : Int32) (s0 : zMem) : Option (Int32 × zMem) :=
  if p2 < 10 then
    f_X6_run_24 p1 p2 s0
  else
    bd (f_X5_isHut 9 (p2 - 10) s0) fun r21 s22 =>
    if r21 = 0 then
      f_X6_run_24 p1 p2 s22
    else
      f_X6_run_25 p1 p2 1 s22
def f_X6_has  (p1 : Int32) (p2 : Int32) (s0 : zMem) : Option (Int32 × zMem) :=
  if ((p1 >>> (p2 &&& 31)) &&& 1) = 0 then
    some (0, s0)
  else
    some (1, s0)
def f_X6_nightsToFailing_7   : Nat → Int32 → Int32 → zMem → Option (Int32 × zMem)
  | 0, _, _, _ => none
  | n + 1, x3, x4, s5 =>
    if 40 < x4 then
      some ((-1), s5)
    else
      bd (f_X5_passNight 20 s5) fun r6 s7 =>
      bd (f_X6_has r6 x3 s7) fun r8 s9 =>
      if r8 = 0 then
        nm (x4 + 1) fun x10 =>
        f_X6_nightsToFailing_7 n x3 x10 s9
      else
        some (x4, s9)
def f_X6_nightsToFailing  (p1 : Int32) (s0 : zMem) : Option (Int32 × zMem) :=
  bd (f_X6_think s0) fun _ s2 =>
  f_X6_nightsToFailing_7 zN p1 1 s2
def f_X6_nightsToNoHeat_7   : Nat → Int32 → Int32 → zMem → Option (Int32 × zMem)
  | 0, _, _, _ => none
  | n + 1, x3, x4, s5 =>
    if 40 < x4 then
      some ((-1), s5)
    else
      gd (zib x3 6) <|
      if (s5 21 (zix x3)) = 0 then
        some (x4, s5)
      else
        bd (f_X5_passNight 20 s5) fun r6 s7 =>
        nm (x4 + 1) fun x8 =>
        f_X6_nightsToNoHeat_7 n x3 x8 s7
def f_X6_nightsToNoHeat  (p1 : Int32) (s0 : zMem) : Option (Int32 × zMem) :=
  bd (f_X6_think s0) fun _ s2 =>
  f_X6_nightsToNoHeat_7 zN p1 0 s2
def f_X6_lasts  (p1 : Int32) (p2 : Int32) (s0 : zMem) : Option (Int32 × zMem) :=
  bd (f_X5_isHut 9 p1 s0) fun r1 s2 =>
  if r1 = 0 then
    some ((-5), s2)
  else
    bd (f_X6_isFromTo p2 0 1 s2) fun r3 s4 =>
    if r3 = 0 then
      some ((-7), s4)
    else
      if p2 = 0 then
        bd (f_X6_nightsToFailing p1 s4) fun r7 s8 =>
        some (r7, s8)
      else
        bd (f_X6_nightsToNoHeat p1 s4) fun r5 s6 =>
        some (r5, s6)
def f_X6_net  (p1 : Int32) (s0 : zMem) : Option (Int32 × zMem) :=
  bd (f_X5_isHut 9 p1 s0) fun r1 s2 =>
  if r1 = 0 then
    some ((-1000000), s2)
  else
    bd (f_X5_isOwed 9 p1 s2) fun r3 s4 =>
    bd (f_X5_owes 9 p1 s4) fun r5 s6 =>
    some (r3 - r5, s6)
def f_X6_payOnce_6  (c57 : Int32 → Int32 → zMem → Option (Int32 × zMem)) : Nat → Int32 → Int32 → Int32 → zMem → Option (Int32 × zMem)
  | 0, _, _, _, _ => none
  | n + 1, x1, x2, x3, s4 =>
    if (s4 9 9) ≤ x3 then
      c57 x1 x2 s4
    else
      gd (zib x3 6) <|
      gd (zib x1 6) <|
      if (s4 46 (zix x1)) ≤ (s4 46 (zix x3)) then
        gd (zib x3 6) <|
        gd (zib x2 6) <|
        if (s4 46 (zix x3)) ≤ (s4 46 (zix x2)) then
          nm (x3 + 1) fun x5 =>
          f_X6_payOnce_6 c57 n x1 x2 x5 s4
        else
          nm (x3 + 1) fun x6 =>
          f_X6_payOnce_6 c57 n x1 x3 x6 s4
      else
        gd (zib x3 6) <|
        gd (zib x2 6) <|
        if (s4 46 (zix x3)) ≤ (s4 46 (zix x2)) then
          nm (x3 + 1) fun x7 =>
          f_X6_payOnce_6 c57 n x3 x2 x7 s4
        else
          nm (x3 + 1) fun x8 =>
          f_X6_payOnce_6 c57 n x3 x3 x8 s4
def f_X6_payOnce   (s0 : zMem) : Option (Int32 × zMem) :=
  f_X6_payOnce_6 (fun x9 x10 s11 =>
    gd (zib x9 6) <|
    gd (zib x10 6) <|
    nm (zmin (-(s11 46 (zix x9))) (s11 46 (zix x10))) fun x12 =>
    if 0 < x12 then
      gd (zib x9 6) <|
      gd (zib x9 6) <|
      nm (zUp s11 46 (zix x9) ((s11 46 (zix x9)) + x12)) fun s13 =>
      gd (zib x10 6) <|
      gd (zib x10 6) <|
      nm (zUp s13 46 (zix x10) ((s13 46 (zix x10)) - x12)) fun s14 =>
      some (x12, s14)
    else
      some (0, s11)) zN 0 0 1 s0
def f_X6_settle_14  (c42 : Int32 → zMem → Option (Int32 × zMem)) : Nat → Int32 → Int32 → zMem → Option (Int32 × zMem)
  | 0, _, _, _ => none
  | n + 1, x3, x4, s5 =>
    if (s5 9 9) ≤ x4 then
      c42 x3 s5
    else
      bd (f_X6_net x4 s5) fun r6 s7 =>
      gd (zib x4 6) <|
      nm (zUp s7 46 (zix x4) r6) fun s8 =>
      nm (x4 + 1) fun x9 =>
      f_X6_settle_14 c42 n x3 x9 s8
def f_X6_settle_49  (c86 : Int32 → Int32 → Int32 → zMem → Option (Int32 × zMem)) : Nat → Int32 → Int32 → Int32 → Int32 → zMem → Option (Int32 × zMem)
  | 0, _, _, _, _, _ => none
  | n + 1, x12, x13, x14, x15, s16 =>
    if (s16 9 9) ≤ x15 then
      c86 x12 x13 x14 s16
    else
      bd (f_X6_payOnce s16) fun r17 s18 =>
      if r17 ≤ 0 then
        nm (x15 + 1) fun x19 =>
        f_X6_settle_49 c86 n x12 x13 x14 x19 s18
      else
        nm (x13 + 1) fun x20 =>
        nm (x14 + r17) fun x21 =>
        nm (x15 + 1) fun x22 =>
        f_X6_settle_49 c86 n x12 x20 x21 x22 s18
def f_X6_settle  (p1 : Int32) (s0 : zMem) : Option (Int32 × zMem) :=
  bd (f_X6_isFromTo p1 0 1 s0) fun r1 s2 =>
  if r1 = 0 then
    some ((-2), s2)
  else
    f_X6_settle_14 (fun x10 s11 =>
      f_X6_settle_49 (fun x23 x24 x25 s26 =>
        if x23 = 0 then
          some (x24, s26)
        else
          some (x25, s26)) zN x10 0 0 0 s11) zN p1 0 s2
def f_X5_sourceOf_15 (w : Nat) (c67 : Int32 → Int32 → Int32 → zMem → Option (Int32 × zMem)) : Nat → Int32 → Int32 → Int32 → Int32 → zMem → Option (Int32 × zMem)
  | 0, _, _, _, _, _ => none
  | n + 1, x5, x6, x7, x8, s9 =>
    if (s9 w 10) ≤ x8 then
      c67 x5 x6 x7 s9
    else
      gd (zib x8 10) <|
      if (s9 (w + 7) (zix x8)) = x5 then
        gd (zib x8 10) <|
        nm (x6 ||| (1 <<< ((s9 (w + 6) (zix x8)) &&& 31))) fun x10 =>
        nm (x8 + 1) fun x11 =>
        f_X5_sourceOf_15 w c67 n x5 x10 x7 x11 s9
      else
        gd (zib x8 10) <|
        bd (f_X6_has x6 (s9 (w + 7) (zix x8)) s9) fun r12 s13 =>
        if r12 = 0 then
          nm (x8 + 1) fun x14 =>
          f_X5_sourceOf_15 w c67 n x5 x6 x7 x14 s13
        else
          gd (zib x8 10) <|
          nm (x6 ||| (1 <<< ((s13 (w + 6) (zix x8)) &&& 31))) fun x15 =>
          nm (x8 + 1) fun x16 =>
          f_X5_sourceOf_15 w c67 n x5 x15 x7 x16 s13
def f_X5_sourceOf_4 (w : Nat)  : Nat → Int32 → Int32 → Int32 → zMem → Option (Int32 × zMem)
  | 0, _, _, _, _ => none
  | n + 1, x1, x2, x3, s4 =>
    if (s4 w 9) ≤ x3 then
      some (x2, s4)
    else
      f_X5_sourceOf_15 w (fun x17 x18 x19 s20 =>
        nm (x19 + 1) fun x21 =>
        f_X5_sourceOf_4 w n x17 x18 x21 s20) zN x1 x2 x3 0 s4
def f_X5_sourceOf (w : Nat) (p1 : Int32) (s0 : zMem) : Option (Int32 × zMem) :=
  f_X5_sourceOf_4 w zN p1 0 0 s0
def f_X6_source  (p1 : Int32) (s0 : zMem) : Option (Int32 × zMem) :=
  bd (f_X5_isHut 9 p1 s0) fun r1 s2 =>
  if r1 = 0 then
    some ((-5), s2)
  else
    bd (f_X5_sourceOf 9 p1 s2) fun r3 s4 =>
    some (r3, s4)
def f_X6_rings_16   : Nat → Int32 → Int32 → Int32 → zMem → Option (Int32 × zMem)
  | 0, _, _, _, _ => none
  | n + 1, x3, x4, x5, s6 =>
    if (s6 9 9) ≤ x5 then
      some (x4, s6)
    else
      bd (f_X5_sourceOf 9 x5 s6) fun r7 s8 =>
      if x3 = 0 then
        bd (f_X6_has r7 x5 s8) fun r15 s16 =>
        if r15 = 0 then
          nm (x5 + 1) fun x17 =>
          f_X6_rings_16 n x3 x4 x17 s16
        else
          nm (x4 ||| (1 <<< (x5 &&& 31))) fun x18 =>
          nm (x5 + 1) fun x19 =>
          f_X6_rings_16 n x3 x18 x19 s16
      else
        if r7 = 0 then
          bd (f_X5_loansFrom 9 x5 s8) fun r10 s11 =>
          if r10 ≤ 0 then
            nm (x5 + 1) fun x12 =>
            f_X6_rings_16 n x3 x4 x12 s11
          else
            nm (x4 ||| (1 <<< (x5 &&& 31))) fun x13 =>
            nm (x5 + 1) fun x14 =>
            f_X6_rings_16 n x3 x13 x14 s11
        else
          nm (x5 + 1) fun x9 =>
          f_X6_rings_16 n x3 x4 x9 s8
def f_X6_rings  (p1 : Int32) (s0 : zMem) : Option (Int32 × zMem) :=
  bd (f_X6_isFromTo p1 0 1 s0) fun r1 s2 =>
  if r1 = 0 then
    some ((-2), s2)
  else
    f_X6_rings_16 zN p1 0 0 s2
def f_X6_heatIfLent  (p1 : Int32) (p2 : Int32) (p3 : Int32) (s0 : zMem) : Option (Int32 × zMem) :=
  bd (f_X6_think s0) fun _ s2 =>
  nm (zrem p3 100) fun x3 =>
  if p1 = p2 then
    some ((-1), s2)
  else
    bd (f_X5_lends 20 p1 p2 (p3 / 100) x3 s2) fun r4 s5 =>
    if 0 ≤ r4 then
      bd (f_X5_passNights 20 (x3 + 1) s5) fun r6 s7 =>
      bd (f_X5_heatOfAll 20 s7) fun r8 s9 =>
      some (r8, s9)
    else
      some ((-1), s5)
def f_X6_ask_44  (c87 : Int32 → Int32 → Int32 → zMem → Option (Int32 × zMem)) : Nat → Int32 → Int32 → Int32 → Int32 → Int32 → Int32 → zMem → Option (Int32 × zMem)
  | 0, _, _, _, _, _, _, _ => none
  | n + 1, x7, x8, x9, x10, x11, x12, s13 =>
    if (s13 9 9) ≤ x12 then
      c87 x9 x10 x11 s13
    else
      bd (f_X6_heatIfLent x12 x7 x8 s13) fun r14 s15 =>
      if r14 ≤ x11 then
        nm (x12 + 1) fun x16 =>
        f_X6_ask_44 c87 n x7 x8 x9 x10 x11 x16 s15
      else
        nm (x12 + 1) fun x17 =>
        f_X6_ask_44 c87 n x7 x8 x9 x12 r14 x17 s15
def f_X6_ask  (p1 : Int32) (p2 : Int32) (p3 : Int32) (s0 : zMem) : Option (Int32 × zMem) :=
  bd (f_X5_isHut 9 p1 s0) fun r1 s2 =>
  if r1 = 0 then
    some ((-5), s2)
  else
    bd (f_X6_isCoalNights p2 39 s2) fun r3 s4 =>
    if r3 = 0 then
      some ((-7), s4)
    else
      bd (f_X6_isFromTo p3 0 1 s4) fun r5 s6 =>
      if r5 = 0 then
        some ((-7), s6)
      else
        f_X6_ask_44 (fun x18 x19 x20 s21 =>
          if x18 = 0 then
            some (x19, s21)
          else
            some (x20, s21)) zN p1 p2 p3 (-1) (-1) 0 s6
def f_X5_failedIn_4 (w : Nat)  : Nat → Int32 → Int32 → Int32 → zMem → Option (Int32 × zMem)
  | 0, _, _, _, _ => none
  | n + 1, x1, x2, x3, s4 =>
    if x1 ≤ x3 then
      some (x2, s4)
    else
      if (s4 w 10) ≤ 0 then
        some (x2, s4)
      else
        bd (f_X5_passNight w s4) fun r5 s6 =>
        nm (x2 ||| r5) fun x7 =>
        nm (x3 + 1) fun x8 =>
        f_X5_failedIn_4 w n x1 x7 x8 s6
def f_X5_failedIn (w : Nat) (p1 : Int32) (s0 : zMem) : Option (Int32 × zMem) :=
  f_X5_failedIn_4 w zN p1 0 0 s0
def f_X6_needs_29   : Nat → Int32 → Int32 → Int32 → zMem → Option (Int32 × zMem)
  | 0, _, _, _, _ => none
  | n + 1, x5, x6, x7, s8 =>
    if 99 < x7 then
      some ((-1), s8)
    else
      bd (f_X6_think s8) fun _ s10 =>
      gd (zib x5 6) <|
      nm (zUp s10 22 (zix x5) x7) fun s11 =>
      bd (f_X5_failedIn 20 x6 s11) fun r12 s13 =>
      bd (f_X6_has r12 x5 s13) fun r14 s15 =>
      if r14 = 0 then
        some (x7, s15)
      else
        nm (x7 + 1) fun x16 =>
        f_X6_needs_29 n x5 x6 x16 s15
def f_X6_needs  (p1 : Int32) (p2 : Int32) (s0 : zMem) : Option (Int32 × zMem) :=
  bd (f_X5_isHut 9 p1 s0) fun r1 s2 =>
  if r1 = 0 then
    some ((-5), s2)
  else
    bd (f_X6_isFromTo p2 0 40 s2) fun r3 s4 =>
    if r3 = 0 then
      some ((-7), s4)
    else
      f_X6_needs_29 zN p1 p2 0 s4
def f_J6_bitCount_0f7a4  (p1 : Int32) (s0 : zMem) : Option (Int32 × zMem) :=
  nm (p1 - (((p1.toUInt32 >>> ((1 : Int32).toUInt32 &&& Int32.toUInt32 31)).toInt32) &&& 1431655765)) fun x1 =>
  nm ((x1 &&& 858993459) + (((x1.toUInt32 >>> ((2 : Int32).toUInt32 &&& Int32.toUInt32 31)).toInt32) &&& 858993459)) fun x2 =>
  nm ((x2 + ((x2.toUInt32 >>> ((4 : Int32).toUInt32 &&& Int32.toUInt32 31)).toInt32)) &&& 252645135) fun x3 =>
  nm (x3 + ((x3.toUInt32 >>> ((8 : Int32).toUInt32 &&& Int32.toUInt32 31)).toInt32)) fun x4 =>
  nm (x4 + ((x4.toUInt32 >>> ((16 : Int32).toUInt32 &&& Int32.toUInt32 31)).toInt32)) fun x5 =>
  some (x5 &&& 63, s0)
def f_X6_mercy_40  (c96 : Int32 → Int32 → Int32 → zMem → Option (Int32 × zMem)) : Nat → Int32 → Int32 → Int32 → Int32 → Int32 → zMem → Option (Int32 × zMem)
  | 0, _, _, _, _, _, _ => none
  | n + 1, x11, x12, x13, x14, x15, s16 =>
    if (s16 9 10) ≤ x15 then
      c96 x12 x13 x14 s16
    else
      bd (f_X6_think s16) fun _ s18 =>
      bd (f_X5_drop 20 x15 s18) fun _ s20 =>
      bd (f_X5_failedIn 20 x11 s20) fun r21 s22 =>
      bd (f_J6_bitCount_0f7a4 r21 s22) fun r23 s24 =>
      if x14 ≤ r23 then
        nm (x15 + 1) fun x25 =>
        f_X6_mercy_40 c96 n x11 x12 x13 x14 x25 s24
      else
        nm (x15 + 1) fun x26 =>
        f_X6_mercy_40 c96 n x11 x12 x15 r23 x26 s24
def f_X6_mercy  (p1 : Int32) (p2 : Int32) (s0 : zMem) : Option (Int32 × zMem) :=
  bd (f_X6_isFromTo p1 0 40 s0) fun r1 s2 =>
  if r1 = 0 then
    some ((-2), s2)
  else
    bd (f_X6_isFromTo p2 0 1 s2) fun r3 s4 =>
    if r3 = 0 then
      some ((-2), s4)
    else
      bd (f_X6_think s4) fun _ s6 =>
      bd (f_X5_failedIn 20 p1 s6) fun r7 s8 =>
      bd (f_J6_bitCount_0f7a4 r7 s8) fun r9 s10 =>
      f_X6_mercy_40 (fun x27 x28 x29 s30 =>
        if x27 = 0 then
          some (x28, s30)
        else
          some (x29, s30)) zN p1 p2 (-1) r9 0 s10
def f_X6_heatOfOthersWithout  (p1 : Int32) (p2 : Int32) (s0 : zMem) : Option (Int32 × zMem) :=
  bd (f_X6_think s0) fun _ s2 =>
  gd (zib p1 6) <|
  nm (zUp s2 21 (zix p1) 0) fun s3 =>
  gd (zib p1 6) <|
  nm (zUp s3 22 (zix p1) 0) fun s4 =>
  bd (f_X5_passNights 20 p2 s4) fun r5 s6 =>
  bd (f_X5_heatOfAll 20 s6) fun r7 s8 =>
  gd (zib p1 6) <|
  some (r7 - (s8 21 (zix p1)), s8)
def f_X6_worst_30  (c76 : Int32 → Int32 → Int32 → zMem → Option (Int32 × zMem)) : Nat → Int32 → Int32 → Int32 → Int32 → Int32 → zMem → Option (Int32 × zMem)
  | 0, _, _, _, _, _, _ => none
  | n + 1, x5, x6, x7, x8, x9, s10 =>
    if (s10 9 9) ≤ x9 then
      c76 x6 x7 x8 s10
    else
      bd (f_X6_heatOfOthersWithout x9 x5 s10) fun r11 s12 =>
      if x7 = (-1) then
        nm (x9 + 1) fun x13 =>
        f_X6_worst_30 c76 n x5 x6 x9 r11 x13 s12
      else
        if x8 ≤ r11 then
          nm (x9 + 1) fun x14 =>
          f_X6_worst_30 c76 n x5 x6 x7 x8 x14 s12
        else
          nm (x9 + 1) fun x15 =>
          f_X6_worst_30 c76 n x5 x6 x9 r11 x15 s12
def f_X6_worst  (p1 : Int32) (p2 : Int32) (s0 : zMem) : Option (Int32 × zMem) :=
  bd (f_X6_isFromTo p1 0 40 s0) fun r1 s2 =>
  if r1 = 0 then
    some ((-2), s2)
  else
    bd (f_X6_isFromTo p2 0 1 s2) fun r3 s4 =>
    if r3 = 0 then
      some ((-2), s4)
    else
      f_X6_worst_30 (fun x16 x17 x18 s19 =>
        if x16 = 0 then
          some (x17, s19)
        else
          some (x18, s19)) zN p1 p2 (-1) (-1) 0 s4
def f_X3_at  (p1 : Int32) (p2 : Int32) (s0 : zMem) : Option (Int32 × zMem) :=
  gd (zib ((p1 * 40) + p2) 160) <|
  some (s0 45 (zix ((p1 * 40) + p2)), s0)
def f_X3_sizeOf  (p1 : Int32) (s0 : zMem) : Option (Int32 × zMem) :=
  gd (zib p1 4) <|
  some (s0 44 (zix p1), s0)
def f_X6_firstOtherwise_13   : Nat → Int32 → Int32 → Int32 → Int32 → zMem → Option (Int32 × zMem)
  | 0, _, _, _, _, _ => none
  | n + 1, x3, x4, x5, x6, s7 =>
    if x5 ≤ x6 then
      some ((-1), s7)
    else
      bd (f_X5_passNight 20 s7) fun r8 s9 =>
      gd (zib x4 6) <|
      bd (f_X3_at x3 x6 s9) fun r10 s11 =>
      if (s9 21 (zix x4)) = r10 then
        nm (x6 + 1) fun x12 =>
        f_X6_firstOtherwise_13 n x3 x4 x5 x12 s11
      else
        some (x6, s11)
def f_X6_firstOtherwise  (p1 : Int32) (p3 : Int32) (s0 : zMem) : Option (Int32 × zMem) :=
  bd (f_X3_sizeOf p1 s0) fun r1 s2 =>
  f_X6_firstOtherwise_13 zN p1 p3 r1 0 s2
def f_X3_isMissing  (p1 : Int32) (s0 : zMem) : Option (Int32 × zMem) :=
  gd (zib p1 4) <|
  if (s0 43 (zix p1)) = (-1) then
    some (1, s0)
  else
    some (0, s0)
def f_X3_isSheet  (p1 : Int32) (s0 : zMem) : Option (Int32 × zMem) :=
  if p1 < 0 then
    some (0, s0)
  else
    if 4 ≤ p1 then
      some (0, s0)
    else
      some (1, s0)
def f_X6_toldRefusal  (p1 : Int32) (s0 : zMem) : Option (Int32 × zMem) :=
  bd (f_X3_isSheet p1 s0) fun r1 s2 =>
  if r1 = 0 then
    some ((-2), s2)
  else
    bd (f_X3_isMissing p1 s2) fun r3 s4 =>
    if r3 = 0 then
      bd (f_X3_sizeOf p1 s4) fun r5 s6 =>
      if r5 ≤ 20 then
        some (0, s6)
      else
        some ((-2), s6)
    else
      some ((-11), s4)
def f_X6_judgeRefusal  (p1 : Int32) (p2 : Int32) (s0 : zMem) : Option (Int32 × zMem) :=
  bd (f_X6_toldRefusal p1 s0) fun r1 s2 =>
  if r1 = 0 then
    bd (f_X5_isHut 9 p2 s2) fun r3 s4 =>
    if r3 = 0 then
      some ((-5), s4)
    else
      some (r1, s4)
  else
    some (r1, s2)
def f_X6_judge  (p1 : Int32) (p2 : Int32) (s0 : zMem) : Option (Int32 × zMem) :=
  bd (f_X6_judgeRefusal p1 p2 s0) fun r1 s2 =>
  if r1 = 0 then
    bd (f_X6_think s2) fun _ s4 =>
    bd (f_X6_firstOtherwise p1 p2 s4) fun r5 s6 =>
    some (r5, s6)
  else
    some (r1, s2)
def f_X6_isTold  (p1 : Int32) (p3 : Int32) (s0 : zMem) : Option (Int32 × zMem) :=
  bd (f_X6_firstOtherwise p1 p3 s0) fun r1 s2 =>
  if r1 = (-1) then
    some (1, s2)
  else
    some (0, s2)
def f_X6_kinds_46  (c34 : Int32 → Int32 → Int32 → Int32 → Int32 → zMem → Option (Int32 × zMem)) (x11 : Int32) (x12 : Int32) (x13 : Int32) (x14 : Int32) (x15 : Int32) (t16 : Int32) (t17 : Int32) (s18 : zMem) : Option (Int32 × zMem) :=
  if t16 < t17 then
    some (x14, s18)
  else
    bd (f_X6_think s18) fun _ s20 =>
    if x13 = 0 then
      gd (zib x12 6) <|
      nm (zUp s20 24 (zix x12) x15) fun s27 =>
      bd (f_X6_isTold x11 x12 s27) fun r28 s29 =>
      if r28 = 0 then
        nm (x15 + 1) fun x30 =>
        c34 x11 x12 x13 x14 x30 s29
      else
        nm (x14 ||| (1 <<< (x15 &&& 31))) fun x31 =>
        nm (x15 + 1) fun x32 =>
        c34 x11 x12 x13 x31 x32 s29
    else
      gd (zib x12 6) <|
      nm (zUp s20 25 (zix x12) x15) fun s21 =>
      bd (f_X6_isTold x11 x12 s21) fun r22 s23 =>
      if r22 = 0 then
        nm (x15 + 1) fun x24 =>
        c34 x11 x12 x13 x14 x24 s23
      else
        nm (x14 ||| (1 <<< (x15 &&& 31))) fun x25 =>
        nm (x15 + 1) fun x26 =>
        c34 x11 x12 x13 x25 x26 s23
def f_X6_kinds_34   : Nat → Int32 → Int32 → Int32 → Int32 → Int32 → zMem → Option (Int32 × zMem)
  | 0, _, _, _, _, _, _ => none
  | n + 1, x5, x6, x7, x8, x9, s10 =>
    if x7 = 0 then
      f_X6_kinds_46 (fun x39 x40 x41 x42 x43 s44 =>
        f_X6_kinds_34 n x39 x40 x41 x42 x43 s44) x5 x6 x7 x8 x9 5 x9 s10
    else
      f_X6_kinds_46 (fun x33 x34 x35 x36 x37 s38 =>
        f_X6_kinds_34 n x33 x34 x35 x36 x37 s38) x5 x6 x7 x8 x9 9 x9 s10
def f_X6_kinds  (p1 : Int32) (p2 : Int32) (p3 : Int32) (s0 : zMem) : Option (Int32 × zMem) :=
  bd (f_X6_judgeRefusal p1 p2 s0) fun r1 s2 =>
  if r1 = 0 then
    bd (f_X6_isFromTo p3 0 1 s2) fun r3 s4 =>
    if r3 = 0 then
      some ((-7), s4)
    else
      f_X6_kinds_34 zN p1 p2 p3 0 0 s4
  else
    some (r1, s2)
def f_X6_states_63  (c111 : Int32 → Int32 → Int32 → zMem → Option (Int32 × zMem)) (c47 : Int32 → Int32 → Int32 → Int32 → Int32 → Int32 → Int32 → zMem → Option (Int32 × zMem)) (x17 : Int32) (x18 : Int32) (x19 : Int32) (x20 : Int32) (x21 : Int32) (x22 : Int32) (x23 : Int32) (t24 : Int32) (t25 : Int32) (s26 : zMem) : Option (Int32 × zMem) :=
  if t24 < t25 then
    c111 x20 x21 x22 s26
  else
    bd (f_X6_think s26) fun _ s28 =>
    bd (f_X5_become 20 x18 x19 x23 s28) fun _ s30 =>
    bd (f_X6_isTold x17 x18 s30) fun r31 s32 =>
    if r31 = 0 then
      nm (x23 + 1) fun x33 =>
      c47 x17 x18 x19 x20 x21 x22 x33 s32
    else
      nm (x21 + 1) fun x34 =>
      if x22 = (-1) then
        nm (x23 + 1) fun x36 =>
        c47 x17 x18 x19 x20 x34 x23 x36 s32
      else
        nm (x23 + 1) fun x35 =>
        c47 x17 x18 x19 x20 x34 x22 x35 s32
def f_X6_states_47  (c111 : Int32 → Int32 → Int32 → zMem → Option (Int32 × zMem)) : Nat → Int32 → Int32 → Int32 → Int32 → Int32 → Int32 → Int32 → zMem → Option (Int32 × zMem)
  | 0, _, _, _, _, _, _, _, _ => none
  | n + 1, x7, x8, x9, x10, x11, x12, x13, s14 =>
    if x9 = 0 then
      f_X6_states_63 (fun x49 x50 x51 s52 =>
        c111 x49 x50 x51 s52) (fun x53 x54 x55 x56 x57 x58 x59 s60 =>
        f_X6_states_47 c111 n x53 x54 x55 x56 x57 x58 x59 s60) x7 x8 x9 x10 x11 x12 x13 299 x13 s14
    else
      bd (f_X6_mostOf x9 s14) fun r15 s16 =>
      f_X6_states_63 (fun x37 x38 x39 s40 =>
        c111 x37 x38 x39 s40) (fun x41 x42 x43 x44 x45 x46 x47 s48 =>
        f_X6_states_47 c111 n x41 x42 x43 x44 x45 x46 x47 s48) x7 x8 x9 x10 x11 x12 x13 r15 x13 s16
def f_X6_states  (p1 : Int32) (p2 : Int32) (p3 : Int32) (p4 : Int32) (s0 : zMem) : Option (Int32 × zMem) :=
  bd (f_X6_judgeRefusal p1 p2 s0) fun r1 s2 =>
  if r1 = 0 then
    bd (f_X6_isFromTo p3 0 2 s2) fun r3 s4 =>
    if r3 = 0 then
      some ((-7), s4)
    else
      bd (f_X6_isFromTo p4 0 1 s4) fun r5 s6 =>
      if r5 = 0 then
        some ((-7), s6)
      else
        f_X6_states_47 (fun x61 x62 x63 s64 =>
          if x61 = 0 then
            some (x62, s64)
          else
            some (x63, s64)) zN p1 p2 p3 p4 0 (-1) 0 s6
  else
    some (r1, s2)
def f_X6_whose_17   : Nat → Int32 → Int32 → Int32 → zMem → Option (Int32 × zMem)
  | 0, _, _, _, _ => none
  | n + 1, x3, x4, x5, s6 =>
    if (s6 9 9) ≤ x5 then
      some (x4, s6)
    else
      bd (f_X6_think s6) fun _ s8 =>
      bd (f_X6_isTold x3 x5 s8) fun r9 s10 =>
      if r9 = 0 then
        nm (x5 + 1) fun x11 =>
        f_X6_whose_17 n x3 x4 x11 s10
      else
        nm (x4 ||| (1 <<< (x5 &&& 31))) fun x12 =>
        nm (x5 + 1) fun x13 =>
        f_X6_whose_17 n x3 x12 x13 s10
def f_X6_whose  (p1 : Int32) (s0 : zMem) : Option (Int32 × zMem) :=
  bd (f_X6_toldRefusal p1 s0) fun r1 s2 =>
  if r1 = 0 then
    f_X6_whose_17 zN p1 0 0 s2
  else
    some (r1, s2)
def f_X6_laws_19   : Nat → Int32 → Int32 → Int32 → Int32 → zMem → Option (Int32 × zMem)
  | 0, _, _, _, _, _ => none
  | n + 1, x3, x4, x5, x6, s7 =>
    if (s7 1 3) ≤ x6 then
      some (x5, s7)
    else
      bd (f_X6_think s7) fun _ s9 =>
      nm (zUp s9 20 12 x6) fun s10 =>
      bd (f_X6_isTold x3 x4 s10) fun r11 s12 =>
      if r11 = 0 then
        nm (x6 + 1) fun x13 =>
        f_X6_laws_19 n x3 x4 x5 x13 s12
      else
        nm (x5 ||| (1 <<< (x6 &&& 31))) fun x14 =>
        nm (x6 + 1) fun x15 =>
        f_X6_laws_19 n x3 x4 x14 x15 s12
def f_X6_laws  (p1 : Int32) (p2 : Int32) (s0 : zMem) : Option (Int32 × zMem) :=
  bd (f_X6_judgeRefusal p1 p2 s0) fun r1 s2 =>
  if r1 = 0 then
    f_X6_laws_19 zN p1 p2 0 0 s2
  else
    some (r1, s2)
def f_X3_renew_17   : Nat → Int32 → Int32 → zMem → Option (Unit × zMem)
  | 0, _, _, _ => none
  | n + 1, x3, x4, s5 =>
    if 40 ≤ x4 then
      some ((), s5)
    else
      gd (zib ((x3 * 40) + x4) 160) <|
      nm (zUp s5 45 (zix ((x3 * 40) + x4)) 0) fun s6 =>
      nm (x4 + 1) fun x7 =>
      f_X3_renew_17 n x3 x7 s6
def f_X3_renew  (p1 : Int32) (p2 : Int32) (p3 : Int32) (s0 : zMem) : Option (Unit × zMem) :=
  gd (zib p1 4) <|
  nm (zUp s0 43 (zix p1) p2) fun s1 =>
  gd (zib p1 4) <|
  nm (zUp s1 44 (zix p1) p3) fun s2 =>
  f_X3_renew_17 zN p1 0 s2
def f_X3_write_16   (x1 : Int32) (x2 : Int32) (x3 : Int32) (x4 : Int32) (s5 : zMem) : Option (Unit × zMem) :=
  gd (zib x1 4) <|
  if (s5 43 (zix x1)) = 1 then
    nm (x3.toInt16.toInt32) fun x7 =>
    gd (zib ((x1 * 40) + x2) 160) <|
    nm (zUp s5 45 (zix ((x1 * 40) + x2)) x7) fun s8 =>
    some ((), s8)
  else
    gd (zib ((x1 * 40) + x2) 160) <|
    nm (zUp s5 45 (zix ((x1 * 40) + x2)) x4) fun s6 =>
    some ((), s6)
def f_X3_write  (p1 : Int32) (p2 : Int32) (p3 : Int32) (s0 : zMem) : Option (Unit × zMem) :=
  gd (zib p1 4) <|
  if (s0 43 (zix p1)) = 0 then
    nm (p3.toInt8.toInt32) fun x9 =>
    f_X3_write_16 p1 p2 p3 x9 s0
  else
    f_X3_write_16 p1 p2 p3 p3 s0
def f_X6_film_60   : Nat → Int32 → Int32 → Int32 → Int32 → zMem → Option (Int32 × zMem)
  | 0, _, _, _, _, _ => none
  | n + 1, x11, x12, x13, x14, s15 =>
    if x13 ≤ x14 then
      some (x13, s15)
    else
      bd (f_X5_passNight 20 s15) fun r16 s17 =>
      gd (zib x12 6) <|
      bd (f_X3_write x11 x14 (s17 21 (zix x12)) s17) fun _ s19 =>
      nm (x14 + 1) fun x20 =>
      f_X6_film_60 n x11 x12 x13 x20 s19
def f_X6_film  (p1 : Int32) (p2 : Int32) (p3 : Int32) (s0 : zMem) : Option (Int32 × zMem) :=
  bd (f_X3_isSheet p1 s0) fun r1 s2 =>
  if r1 = 0 then
    some ((-2), s2)
  else
    bd (f_X5_isHut 9 p2 s2) fun r3 s4 =>
    if r3 = 0 then
      some ((-5), s4)
    else
      bd (f_X6_isFromTo p3 0 20 s4) fun r5 s6 =>
      if r5 = 0 then
        some ((-7), s6)
      else
        bd (f_X3_renew p1 1 p3 s6) fun _ s8 =>
        bd (f_X6_think s8) fun _ s10 =>
        f_X6_film_60 zN p1 p2 p3 0 s10
def f_X5_passSnow_20 (w : Nat)  : Nat → Int32 → Int32 → Int64 → Int32 → zMem → Option (Int32 × zMem)
  | 0, _, _, _, _, _ => none
  | n + 1, x2, x3, x4, x5, s6 =>
    if 5 ≤ x5 then
      some (x3, s6)
    else
      nm (zremL (x4 * 48271) 2147483647) fun x7 =>
      gd (decide (¬ (s6 w 9).toInt64 = 0)) <|
      nm ((zremL x7 ((s6 w 9).toInt64)).toInt32) fun x8 =>
      gd (zib x8 6) <|
      gd (zib x8 6) <|
      nm (zUp s6 (w + 1) (zix x8) (zmax 0 ((s6 (w + 1) (zix x8)) - x2))) fun s9 =>
      bd (f_X5_passNight w s9) fun r10 s11 =>
      nm (x3 ||| r10) fun x12 =>
      nm (x5 + 1) fun x13 =>
      f_X5_passSnow_20 w n x2 x12 x7 x13 s11
def f_X5_passSnow (w : Nat) (p1 : Int32) (p2 : Int32) (s0 : zMem) : Option (Int32 × zMem) :=
  if 0 < (s0 w 9) then
    nm (p1.toInt64 + 1) fun x1 =>
    f_X5_passSnow_20 w zN p2 0 x1 0 s0
  else
    some (0, s0)
def f_X6_isSnow  (p1 : Int32) (p2 : Int32) (s0 : zMem) : Option (Int32 × zMem) :=
  bd (f_X6_isFromTo p1 0 99999 s0) fun r1 s2 =>
  if r1 = 0 then
    some (0, s2)
  else
    bd (f_X6_isFromTo p2 0 999 s2) fun r3 s4 =>
    if r3 = 0 then
      some (0, s4)
    else
      some (1, s4)
def f_X6_drawn  (p1 : Int32) (p2 : Int32) (p3 : Int32) (s0 : zMem) : Option (Int32 × zMem) :=
  bd (f_X6_isSnow p1 p2 s0) fun r1 s2 =>
  if r1 = 0 then
    some ((-2), s2)
  else
    bd (f_X6_isFromTo p3 0 1 s2) fun r3 s4 =>
    if r3 = 0 then
      some ((-2), s4)
    else
      bd (f_X6_think s4) fun _ s6 =>
      bd (f_X5_passSnow 20 p1 p2 s6) fun r7 s8 =>
      if p3 = 0 then
        some (r7, s8)
      else
        bd (f_X5_heatOfAll 20 s8) fun r9 s10 =>
        some (r9, s10)
def f_X6_greatestShared_2   : Nat → Int32 → Int32 → Int32 → zMem → Option (Int32 × zMem)
  | 0, _, _, _, _ => none
  | n + 1, x1, x2, x3, s4 =>
    if x3 ≤ 1 then
      some (1, s4)
    else
      gd (decide (¬ x3 = 0)) <|
      if (zrem x1 x3) = 0 then
        gd (decide (¬ x3 = 0)) <|
        if (zrem x2 x3) = 0 then
          some (x3, s4)
        else
          nm (x3 + (-1)) fun x6 =>
          f_X6_greatestShared_2 n x1 x2 x6 s4
      else
        nm (x3 + (-1)) fun x5 =>
        f_X6_greatestShared_2 n x1 x2 x5 s4
def f_X6_greatestShared  (p1 : Int32) (p2 : Int32) (s0 : zMem) : Option (Int32 × zMem) :=
  f_X6_greatestShared_2 zN p1 p2 p2 s0
def f_X6_odds_49  (c84 : Int32 → Int32 → Int32 → zMem → Option (Int64 × zMem)) : Nat → Int32 → Int32 → Int32 → Int32 → Int32 → Int32 → Int32 → zMem → Option (Int64 × zMem)
  | 0, _, _, _, _, _, _, _, _ => none
  | n + 1, x9, x10, x11, x12, x13, x14, x15, s16 =>
    if x10 ≤ x15 then
      c84 x10 x13 x14 s16
    else
      bd (f_X6_think s16) fun _ s18 =>
      bd (f_X5_passSnow 20 (x9 + x15) x11 s18) fun r19 s20 =>
      bd (f_J6_bitCount_0f7a4 r19 s20) fun r21 s22 =>
      if r21 < x12 then
        nm (x15 + 1) fun x23 =>
        f_X6_odds_49 c84 n x9 x10 x11 x12 x13 x14 x23 s22
      else
        nm (x14 + 1) fun x24 =>
        nm (x15 + 1) fun x25 =>
        f_X6_odds_49 c84 n x9 x10 x11 x12 x13 x24 x25 s22
def f_X6_odds  (p1 : Int32) (p2 : Int32) (p3 : Int32) (p4 : Int32) (p5 : Int32) (s0 : zMem) : Option (Int64 × zMem) :=
  bd (f_X6_isSnow p1 p3 s0) fun r1 s2 =>
  if r1 = 0 then
    some ((-4611686018427387904), s2)
  else
    bd (f_X6_isFromTo p2 1 40 s2) fun r3 s4 =>
    if r3 = 0 then
      some ((-4611686018427387904), s4)
    else
      bd (f_X6_isFromTo p4 0 6 s4) fun r5 s6 =>
      if r5 = 0 then
        some ((-4611686018427387904), s6)
      else
        bd (f_X6_isFromTo p5 0 1 s6) fun r7 s8 =>
        if r7 = 0 then
          some ((-4611686018427387904), s8)
        else
          f_X6_odds_49 (fun x26 x27 x28 s29 =>
            bd (f_X6_greatestShared x28 x26 s29) fun r30 s31 =>
            if x27 = 0 then
              gd (decide (¬ r30 = 0)) <|
              some ((x28 / r30).toInt64, s31)
            else
              gd (decide (¬ r30 = 0)) <|
              some ((x26 / r30).toInt64, s31)) zN p1 p2 p3 p4 p5 0 0 s8
def f_X6_image   (s0 : zMem) : Option (Int32 × zMem) :=
  bd (f_X5_becomeAs 31 9 s0) fun _ s2 =>
  nm (zUp s2 0 7 1) fun s3 =>
  some (s3 9 9, s3)
def f_X6_back   (s0 : zMem) : Option (Int32 × zMem) :=
  if (s0 0 7) = 0 then
    some ((-3), s0)
  else
    bd (f_X5_becomeAs 9 31 s0) fun _ s2 =>
    some (s2 9 9, s2)
def f_X6_sheet_33   (x5 : Int32) (x6 : Int32) (t7 : Int32) (s8 : zMem) : Option (Int32 × zMem) :=
  if t7 ≤ 40 then
    if 0 ≤ t7 then
      bd (f_X3_renew x5 x6 t7 s8) fun _ s10 =>
      some (1, s10)
    else
      some ((-14), s8)
  else
    some ((-2), s8)
def f_X6_sheet  (p1 : Int32) (p2 : Int32) (p3 : Int32) (s0 : zMem) : Option (Int32 × zMem) :=
  bd (f_X3_isSheet p1 s0) fun r1 s2 =>
  if r1 = 0 then
    some ((-2), s2)
  else
    bd (f_X6_isFromTo p2 (-1) 2 s2) fun r3 s4 =>
    if r3 = 0 then
      some ((-2), s4)
    else
      if p2 = (-1) then
        f_X6_sheet_33 p1 p2 0 s4
      else
        f_X6_sheet_33 p1 p2 p3 s4
def f_X3_isPlace  (p1 : Int32) (p2 : Int32) (s0 : zMem) : Option (Int32 × zMem) :=
  if p2 < 0 then
    some (0, s0)
  else
    gd (zib p1 4) <|
    if (s0 44 (zix p1)) ≤ p2 then
      some (0, s0)
    else
      some (1, s0)
def f_X6_cell  (p1 : Int32) (p2 : Int32) (p3 : Int32) (s0 : zMem) : Option (Int32 × zMem) :=
  bd (f_X3_isSheet p1 s0) fun r1 s2 =>
  if r1 = 0 then
    some ((-2), s2)
  else
    bd (f_X3_isMissing p1 s2) fun r3 s4 =>
    if r3 = 0 then
      bd (f_X3_isPlace p1 p2 s4) fun r5 s6 =>
      if r5 = 0 then
        some ((-12), s6)
      else
        bd (f_X3_write p1 p2 p3 s6) fun _ s8 =>
        some (1, s8)
    else
      some ((-11), s4)
def f_X3_isStretch  (p1 : Int32) (p2 : Int32) (p3 : Int32) (s0 : zMem) : Option (Int32 × zMem) :=
  if p2 < 0 then
    some (0, s0)
  else
    if p3 < 0 then
      some (0, s0)
    else
      gd (zib p1 4) <|
      if 0 < (lg_cmp (p2.toInt64 + p3.toInt64) ((s0 44 (zix p1)).toInt64)) then
        some (0, s0)
      else
        some (1, s0)
def f_X3_move  (p1 : Int32) (p2 : Int32) (p3 : Int32) (p4 : Int32) (p5 : Int32) (s0 : zMem) : Option (Unit × zMem) :=
  gd (zcpOk ((p1 * 40) + p2) ((p3 * 40) + p4) p5 160 160) <|
  nm (zCp s0 45 (zix ((p1 * 40) + p2)) 45 (zix ((p3 * 40) + p4)) (zix p5)) fun s1 =>
  some ((), s1)
def f_X3_sortOf  (p1 : Int32) (s0 : zMem) : Option (Int32 × zMem) :=
  gd (zib p1 4) <|
  some (s0 43 (zix p1), s0)
def f_X6_copy  (p1 : Int32) (p2 : Int32) (p3 : Int32) (p4 : Int32) (p5 : Int32) (s0 : zMem) : Option (Int32 × zMem) :=
  bd (f_X3_isSheet p1 s0) fun r1 s2 =>
  if r1 = 0 then
    some ((-2), s2)
  else
    bd (f_X3_isSheet p3 s2) fun r3 s4 =>
    if r3 = 0 then
      some ((-2), s4)
    else
      bd (f_X3_isMissing p1 s4) fun r5 s6 =>
      if r5 = 0 then
        bd (f_X3_isMissing p3 s6) fun r7 s8 =>
        if r7 = 0 then
          bd (f_X3_sortOf p1 s8) fun r9 s10 =>
          bd (f_X3_sortOf p3 s10) fun r11 s12 =>
          if r9 = r11 then
            bd (f_X3_isStretch p1 p2 p5 s12) fun r13 s14 =>
            if r13 = 0 then
              some ((-12), s14)
            else
              bd (f_X3_isStretch p3 p4 p5 s14) fun r15 s16 =>
              if r15 = 0 then
                some ((-12), s16)
              else
                bd (f_X3_move p1 p2 p3 p4 p5 s16) fun _ s18 =>
                some (p5, s18)
          else
            some ((-13), s12)
        else
          some ((-11), s8)
      else
        some ((-11), s6)
def f_X6_hutsBy_69   : Nat → Int32 → Int32 → Int32 → Int32 → Int32 → zMem → Option (Int32 × zMem)
  | 0, _, _, _, _, _, _ => none
  | n + 1, x11, x12, x13, x14, x15, s16 =>
    if x13 ≤ x15 then
      some (x14, s16)
    else
      bd (f_X3_isStretch x11 x12 ((2 * x15) + 2) s16) fun r17 s18 =>
      if r17 = 0 then
        some ((-12), s18)
      else
        nm (x12 + (2 * x15)) fun x19 =>
        bd (f_X3_at x11 x19 s18) fun r20 s21 =>
        bd (f_X3_at x11 (x19 + 1) s21) fun r22 s23 =>
        bd (f_X5_comes 9 r20 r22 s23) fun r24 s25 =>
        if r24 < 0 then
          nm (x15 + 1) fun x26 =>
          f_X6_hutsBy_69 n x11 x12 x13 x14 x26 s25
        else
          nm (x14 + 1) fun x27 =>
          nm (x15 + 1) fun x28 =>
          f_X6_hutsBy_69 n x11 x12 x13 x27 x28 s25
def f_X6_hutsBy  (p1 : Int32) (p2 : Int32) (p3 : Int32) (p4 : Int32) (s0 : zMem) : Option (Int32 × zMem) :=
  bd (f_X3_isSheet p1 s0) fun r1 s2 =>
  if r1 = 0 then
    some ((-2), s2)
  else
    bd (f_X6_isFromTo p2 0 2 s2) fun r3 s4 =>
    if r3 = 0 then
      some ((-2), s4)
    else
      bd (f_X6_isFromTo p4 0 6 s4) fun r5 s6 =>
      if r5 = 0 then
        some ((-2), s6)
      else
        bd (f_X3_isMissing p1 s6) fun r7 s8 =>
        if r7 = 0 then
          bd (f_X3_sortOf p1 s8) fun r9 s10 =>
          if r9 = p2 then
            f_X6_hutsBy_69 zN p1 p3 p4 0 0 s10
          else
            some ((-13), s10)
        else
          some ((-11), s8)
def f_X1_isOne_4   : Nat → Int32 → Int32 → Int32 → zMem → Option (Int32 × zMem)
  | 0, _, _, _, _ => none
  | n + 1, x1, x2, x3, s4 =>
    if 6 ≤ x3 then
      some (0, s4)
    else
      if x2 < 0 then
        some (0, s4)
      else
        if 6 ≤ x2 then
          some (0, s4)
        else
          if x2 = x1 then
            some (1, s4)
          else
            gd (zib x2 6) <|
            nm (zAb.getD (zix x2) 0) fun x5 =>
            nm (x3 + 1) fun x6 =>
            f_X1_isOne_4 n x1 x5 x6 s4
def f_X1_isOne  (p1 : Int32) (p2 : Int32) (s0 : zMem) : Option (Int32 × zMem) :=
  f_X1_isOne_4 zN p2 p1 0 s0
def f_X6_taken_55   (x8 : Int32) (x9 : Int32) (x10 : Int32) (t11 : Int32) (s12 : zMem) : Option (Int32 × zMem) :=
  if x8 < 6 then
    if t11 = 0 then
      gd (zib x10 6) <|
      bd (f_X1_isOne (s12 13 (zix x10)) x9 s12) fun r13 s14 =>
      if r13 = 0 then
        some ((-13), s14)
      else
        some (x10, s14)
    else
      some ((-13), s12)
  else
    if t11 = 0 then
      some ((-13), s12)
    else
      gd (zib x10 6) <|
      some (s12 10 (zix x10), s12)
def f_X6_taken  (p1 : Int32) (p2 : Int32) (s0 : zMem) : Option (Int32 × zMem) :=
  bd (f_X6_isFromTo p2 0 6 s0) fun r1 s2 =>
  if r1 = 0 then
    some ((-2), s2)
  else
    bd (f_X6_isFromTo p1 0 11 s2) fun r3 s4 =>
    if r3 = 0 then
      some ((-12), s4)
    else
      nm (zrem p1 6) fun x5 =>
      bd (f_X5_isHut 9 x5 s4) fun r6 s7 =>
      if r6 = 0 then
        some ((-11), s7)
      else
        if p2 ≤ 5 then
          f_X6_taken_55 p1 p2 x5 0 s7
        else
          f_X6_taken_55 p1 p2 x5 1 s7
def f_X7_in  (p1 : Int32) (p2 : Int32) (p3 : Int32) (s0 : zMem) : Option (Int32 × zMem) :=
  if p1 < p2 then
    some (0, s0)
  else
    if p3 < p1 then
      some (0, s0)
    else
      some (1, s0)
def f_X7_within  (p1 : Int32) (p2 : Int32) (p3 : Int32) (s0 : zMem) : Option (Int32 × zMem) :=
  if p2 ≤ p1 then
    if p1 ≤ p3 then
      some (p1, s0)
    else
      some (p3, s0)
  else
    some (p2, s0)
def f_X7_isHut  (p1 : Int32) (s0 : zMem) : Option (Int32 × zMem) :=
  bd (f_X7_in p1 0 ((s0 47 0) - 1) s0) fun r1 s2 =>
  gd (z01 r1) <|
  some (r1, s2)
def f_X7_isLoan  (p1 : Int32) (s0 : zMem) : Option (Int32 × zMem) :=
  bd (f_X7_in p1 0 ((s0 47 8) - 1) s0) fun r1 s2 =>
  gd (z01 r1) <|
  some (r1, s2)
def f_X7_owedBy_4   : Nat → Int32 → Int32 → Int32 → zMem → Option (Int32 × zMem)
  | 0, _, _, _, _ => none
  | n + 1, x1, x2, x3, s4 =>
    if (s4 47 8) ≤ x3 then
      some (x2, s4)
    else
      gd (zib x3 10) <|
      if (s4 52 (zix x3)) = x1 then
        gd (zib x3 10) <|
        nm (x2 + (s4 53 (zix x3))) fun x7 =>
        nm (x3 + 1) fun x8 =>
        f_X7_owedBy_4 n x1 x7 x8 s4
      else
        nm (x2 + 0) fun x5 =>
        nm (x3 + 1) fun x6 =>
        f_X7_owedBy_4 n x1 x5 x6 s4
def f_X7_owedBy  (p1 : Int32) (s0 : zMem) : Option (Int32 × zMem) :=
  f_X7_owedBy_4 zN p1 0 0 s0
def f_X7_owedTo_4   : Nat → Int32 → Int32 → Int32 → zMem → Option (Int32 × zMem)
  | 0, _, _, _, _ => none
  | n + 1, x1, x2, x3, s4 =>
    if (s4 47 8) ≤ x3 then
      some (x2, s4)
    else
      gd (zib x3 10) <|
      if (s4 51 (zix x3)) = x1 then
        gd (zib x3 10) <|
        nm (x2 + (s4 53 (zix x3))) fun x7 =>
        nm (x3 + 1) fun x8 =>
        f_X7_owedTo_4 n x1 x7 x8 s4
      else
        nm (x2 + 0) fun x5 =>
        nm (x3 + 1) fun x6 =>
        f_X7_owedTo_4 n x1 x5 x6 s4
def f_X7_owedTo  (p1 : Int32) (s0 : zMem) : Option (Int32 × zMem) :=
  f_X7_owedTo_4 zN p1 0 0 s0
def f_X7_lentBy_4   : Nat → Int32 → Int32 → Int32 → zMem → Option (Int32 × zMem)
  | 0, _, _, _, _ => none
  | n + 1, x1, x2, x3, s4 =>
    if (s4 47 8) ≤ x3 then
      some (x2, s4)
    else
      gd (zib x3 10) <|
      if (s4 51 (zix x3)) = x1 then
        nm (x2 + 1) fun x7 =>
        nm (x3 + 1) fun x8 =>
        f_X7_lentBy_4 n x1 x7 x8 s4
      else
        nm (x2 + 0) fun x5 =>
        nm (x3 + 1) fun x6 =>
        f_X7_lentBy_4 n x1 x5 x6 s4
def f_X7_lentBy  (p1 : Int32) (s0 : zMem) : Option (Int32 × zMem) :=
  f_X7_lentBy_4 zN p1 0 0 s0
def f_X7_heatAll_4   : Nat → Int32 → Int32 → zMem → Option (Int32 × zMem)
  | 0, _, _, _ => none
  | n + 1, x1, x2, s3 =>
    if (s3 47 0) ≤ x2 then
      some (x1, s3)
    else
      gd (zib (3 * x2) 18) <|
      nm (x1 + (s3 50 (zix (3 * x2)))) fun x4 =>
      nm (x2 + 1) fun x5 =>
      f_X7_heatAll_4 n x4 x5 s3
def f_X7_heatAll   (s0 : zMem) : Option (Int32 × zMem) :=
  f_X7_heatAll_4 zN 0 0 s0
def f_X7_count  (p1 : Int32) (s0 : zMem) : Option (Int32 × zMem) :=
  if p1 = 0 then
    some (s0 47 0, s0)
  else if p1 = 1 then
    some (s0 47 8, s0)
  else if p1 = 2 then
    some (s0 47 9, s0)
  else if p1 = 3 then
    bd (f_X7_heatAll s0) fun r1 s2 =>
    some (r1, s2)
  else if p1 = 4 then
    some (s0 47 14, s0)
  else if p1 = 5 then
    some (s0 47 15, s0)
  else if p1 = 6 then
    some (s0 47 11, s0)
  else
    some ((-2), s0)
def f_X7_isByte  (p1 : Int32) (s0 : zMem) : Option (Int32 × zMem) :=
  bd (f_X7_in p1 0 255 s0) fun r1 s2 =>
  gd (z01 r1) <|
  some (r1, s2)
def f_X7_feed_68   : Nat → Int32 → Int32 → Int32 → Int32 → Int32 → Int32 → Int32 → zMem → Option (Int32 × zMem)
  | 0, _, _, _, _, _, _, _, _ => none
  | n + 1, x13, x14, x15, x16, x17, x18, x19, s20 =>
    if x13 ≤ x19 then
      some (s20 47 11, s20)
    else
      if x19 = 0 then
        gd (zib (s20 47 11) 160) <|
        nm (zUp s20 55 (zix (s20 47 11)) x14) fun s33 =>
        nm (zUp s33 47 11 ((s33 47 11) + 1)) fun s34 =>
        nm (x19 + 1) fun x35 =>
        f_X7_feed_68 n x13 x14 x15 x16 x17 x18 x35 s34
      else
        if x19 = 1 then
          gd (zib (s20 47 11) 160) <|
          nm (zUp s20 55 (zix (s20 47 11)) x15) fun s30 =>
          nm (zUp s30 47 11 ((s30 47 11) + 1)) fun s31 =>
          nm (x19 + 1) fun x32 =>
          f_X7_feed_68 n x13 x14 x15 x16 x17 x18 x32 s31
        else
          if x19 = 2 then
            gd (zib (s20 47 11) 160) <|
            nm (zUp s20 55 (zix (s20 47 11)) x16) fun s27 =>
            nm (zUp s27 47 11 ((s27 47 11) + 1)) fun s28 =>
            nm (x19 + 1) fun x29 =>
            f_X7_feed_68 n x13 x14 x15 x16 x17 x18 x29 s28
          else
            if x19 = 3 then
              gd (zib (s20 47 11) 160) <|
              nm (zUp s20 55 (zix (s20 47 11)) x17) fun s24 =>
              nm (zUp s24 47 11 ((s24 47 11) + 1)) fun s25 =>
              nm (x19 + 1) fun x26 =>
              f_X7_feed_68 n x13 x14 x15 x16 x17 x18 x26 s25
            else
              gd (zib (s20 47 11) 160) <|
              nm (zUp s20 55 (zix (s20 47 11)) x18) fun s21 =>
              nm (zUp s21 47 11 ((s21 47 11) + 1)) fun s22 =>
              nm (x19 + 1) fun x23 =>
              f_X7_feed_68 n x13 x14 x15 x16 x17 x18 x23 s22
def f_X7_feed  (p1 : Int32) (p2 : Int32) (p3 : Int32) (p4 : Int32) (p5 : Int32) (p6 : Int32) (s0 : zMem) : Option (Int32 × zMem) :=
  bd (f_X7_in p1 1 5 s0) fun r1 s2 =>
  if r1 = 0 then
    some ((-2), s2)
  else
    bd (f_X7_isByte p2 s2) fun r3 s4 =>
    if r3 = 0 then
      some ((-2), s4)
    else
      bd (f_X7_isByte p3 s4) fun r5 s6 =>
      if r5 = 0 then
        some ((-2), s6)
      else
        bd (f_X7_isByte p4 s6) fun r7 s8 =>
        if r7 = 0 then
          some ((-2), s8)
        else
          bd (f_X7_isByte p5 s8) fun r9 s10 =>
          if r9 = 0 then
            some ((-2), s10)
          else
            bd (f_X7_isByte p6 s10) fun r11 s12 =>
            if r11 = 0 then
              some ((-2), s12)
            else
              if ((s12 47 11) + p1) ≤ 160 then
                f_X7_feed_68 zN p1 p2 p3 p4 p5 p6 0 s12
              else
                some ((-4), s12)
def f_X7_wordFrom_26  (c88 : Int32 → Int32 → Int32 → Int32 → zMem → Option (Int32 × zMem)) : Nat → Int32 → Int32 → Int32 → Int32 → Int32 → zMem → Option (Int32 × zMem)
  | 0, _, _, _, _, _, _ => none
  | n + 1, x10, x11, x12, x13, x14, s15 =>
    if 8 ≤ x14 then
      c88 x10 x11 x12 x13 s15
    else
      if x13 = 0 then
        c88 x10 x11 x12 x13 s15
      else
        gd (zib ((8 * x12) + x14) 96) <|
        if x11 ≤ (x10 + x14) then
          if (s15 64 (zix ((8 * x12) + x14))) = 32 then
            nm (x14 + 1) fun x17 =>
            f_X7_wordFrom_26 c88 n x10 x11 x12 1 x17 s15
          else
            nm (x14 + 1) fun x16 =>
            f_X7_wordFrom_26 c88 n x10 x11 x12 0 x16 s15
        else
          gd (zib (x10 + x14) 160) <|
          if (s15 64 (zix ((8 * x12) + x14))) = (s15 55 (zix (x10 + x14))) then
            nm (x14 + 1) fun x19 =>
            f_X7_wordFrom_26 c88 n x10 x11 x12 1 x19 s15
          else
            nm (x14 + 1) fun x18 =>
            f_X7_wordFrom_26 c88 n x10 x11 x12 0 x18 s15
def f_X7_wordFrom_21  (c2 : Int32 → Int32 → Int32 → zMem → Option (Int32 × zMem)) (x5 : Int32) (x6 : Int32) (x7 : Int32) (t8 : Int32) (s9 : zMem) : Option (Int32 × zMem) :=
  f_X7_wordFrom_26 (fun x20 x21 x22 x23 s24 =>
    if x23 = 0 then
      nm (x22 + 1) fun x25 =>
      c2 x20 x21 x25 s24
    else
      some (x22, s24)) zN x5 x6 x7 t8 0 s9
def f_X7_wordFrom_2   : Nat → Int32 → Int32 → Int32 → zMem → Option (Int32 × zMem)
  | 0, _, _, _, _ => none
  | n + 1, x1, x2, x3, s4 =>
    if 12 ≤ x3 then
      some (12, s4)
    else
      if 8 < (x2 - x1) then
        f_X7_wordFrom_21 (fun x26 x27 x28 s29 =>
          f_X7_wordFrom_2 n x26 x27 x28 s29) x1 x2 x3 0 s4
      else
        f_X7_wordFrom_21 (fun x30 x31 x32 s33 =>
          f_X7_wordFrom_2 n x30 x31 x32 s33) x1 x2 x3 1 s4
def f_X7_wordFrom  (p1 : Int32) (p2 : Int32) (s0 : zMem) : Option (Int32 × zMem) :=
  f_X7_wordFrom_2 zN p1 p2 0 s0
def f_X7_next_0  (c52 : zMem → Option (Unit × zMem)) : Nat → zMem → Option (Unit × zMem)
  | 0, _ => none
  | n + 1, s1 =>
    if (s1 47 11) ≤ (s1 47 23) then
      c52 s1
    else
      gd (zib (s1 47 23) 160) <|
      if (s1 55 (zix (s1 47 23))) = 32 then
        nm (zUp s1 47 23 ((s1 47 23) + 1)) fun s2 =>
        f_X7_next_0 c52 n s2
      else
        gd (zib (s1 47 23) 160) <|
        if (s1 55 (zix (s1 47 23))) = 10 then
          nm (zUp s1 47 23 ((s1 47 23) + 1)) fun s3 =>
          f_X7_next_0 c52 n s3
        else
          c52 s1
def f_X7_next_379   (x16 : Int32) (t17 : Int32) (s18 : zMem) : Option (Unit × zMem) :=
  if t17 = 0 then
    nm (zUp s18 47 25 (-1)) fun s19 =>
    nm (zUp s19 47 23 ((s19 47 23) + 1)) fun s20 =>
    some ((), s20)
  else
    nm (zUp s18 47 25 x16) fun s21 =>
    nm (zUp s21 47 23 ((s21 47 23) + 1)) fun s22 =>
    some ((), s22)
def f_X7_next_374   (x14 : Int32) (s15 : zMem) : Option (Unit × zMem) :=
  f_X7_next_379 x14 1 s15
def f_X7_next_230  (c309 : Int32 → zMem → Option (Unit × zMem)) : Nat → Int32 → zMem → Option (Unit × zMem)
  | 0, _, _ => none
  | n + 1, x23, s24 =>
    if (s24 47 11) ≤ (s24 47 23) then
      c309 x23 s24
    else
      gd (zib (s24 47 23) 160) <|
      bd (f_X7_in (s24 55 (zix (s24 47 23))) 48 57 s24) fun r25 s26 =>
      if r25 = 0 then
        c309 x23 s26
      else
        if 4 ≤ x23 then
          nm (zUp s26 47 26 0) fun s27 =>
          nm (x23 + 1) fun x28 =>
          nm (zUp s27 47 23 ((s27 47 23) + 1)) fun s29 =>
          f_X7_next_230 c309 n x28 s29
        else
          gd (zib (s26 47 23) 160) <|
          nm (zUp s26 47 26 (((10 * (s26 47 26)) + (s26 55 (zix (s26 47 23)))) - 48)) fun s30 =>
          nm (x23 + 1) fun x31 =>
          nm (zUp s30 47 23 ((s30 47 23) + 1)) fun s32 =>
          f_X7_next_230 c309 n x31 s32
def f_X7_next_103  (c146 : zMem → Option (Unit × zMem)) : Nat → zMem → Option (Unit × zMem)
  | 0, _ => none
  | n + 1, s37 =>
    if (s37 47 11) ≤ (s37 47 23) then
      c146 s37
    else
      gd (zib (s37 47 23) 160) <|
      bd (f_X7_in (s37 55 (zix (s37 47 23))) 97 122 s37) fun r38 s39 =>
      if r38 = 0 then
        c146 s39
      else
        nm (zUp s39 47 23 ((s39 47 23) + 1)) fun s40 =>
        f_X7_next_103 c146 n s40
def f_X7_next_146   (s42 : zMem) : Option (Unit × zMem) :=
  bd (f_X7_wordFrom (s42 47 24) (s42 47 23) s42) fun r43 s44 =>
  if 3 ≤ r43 then
    if 9 ≤ r43 then
      if r43 = 12 then
        nm (zUp s44 47 25 (-1)) fun s48 =>
        if 3 ≤ r43 then
          nm (zUp s48 47 26 (r43 - 3)) fun s49 =>
          some ((), s49)
        else
          nm (zUp s48 47 26 r43) fun s50 =>
          some ((), s50)
      else
        nm (zUp s44 47 25 ((4 + r43) - 9)) fun s45 =>
        if 3 ≤ r43 then
          nm (zUp s45 47 26 (r43 - 3)) fun s46 =>
          some ((), s46)
        else
          nm (zUp s45 47 26 r43) fun s47 =>
          some ((), s47)
    else
      nm (zUp s44 47 25 2) fun s51 =>
      if 3 ≤ r43 then
        nm (zUp s51 47 26 (r43 - 3)) fun s52 =>
        some ((), s52)
      else
        nm (zUp s51 47 26 r43) fun s53 =>
        some ((), s53)
  else
    nm (zUp s44 47 25 3) fun s54 =>
    if 3 ≤ r43 then
      nm (zUp s54 47 26 (r43 - 3)) fun s55 =>
      some ((), s55)
    else
      nm (zUp s54 47 26 r43) fun s56 =>
      some ((), s56)
def f_X7_next_52   (s5 : zMem) : Option (Unit × zMem) :=
  nm (zUp s5 47 24 (s5 47 23)) fun s6 =>
  nm (zUp s6 47 25 0) fun s7 =>
  nm (zUp s7 47 26 0) fun s8 =>
  if (s8 47 23) = (s8 47 11) then
    some ((), s8)
  else
    gd (zib (s8 47 23) 160) <|
    nm (s8 55 (zix (s8 47 23))) fun x9 =>
    bd (f_X7_in x9 97 122 s8) fun r10 s11 =>
    if r10 = 0 then
      bd (f_X7_in x9 48 57 s11) fun r12 s13 =>
      if r12 = 0 then
        if x9 = 40 then
          f_X7_next_374 x9 s13
        else
          if x9 = 41 then
            f_X7_next_374 x9 s13
          else
            if x9 = 59 then
              f_X7_next_374 x9 s13
            else
              if x9 = 43 then
                f_X7_next_374 x9 s13
              else
                if x9 = 45 then
                  f_X7_next_374 x9 s13
                else
                  if x9 = 42 then
                    f_X7_next_374 x9 s13
                  else
                    if x9 = 60 then
                      f_X7_next_374 x9 s13
                    else
                      if x9 = 61 then
                        f_X7_next_374 x9 s13
                      else
                        f_X7_next_379 x9 0 s13
      else
        f_X7_next_230 (fun x33 s34 =>
          if x33 ≤ 4 then
            nm (zUp s34 47 25 1) fun s35 =>
            some ((), s35)
          else
            nm (zUp s34 47 25 (-1)) fun s36 =>
            some ((), s36)) zN 0 s13
    else
      f_X7_next_103 (fun s41 =>
        f_X7_next_146 s41) zN s11
def f_X7_next   (s0 : zMem) : Option (Unit × zMem) :=
  f_X7_next_0 (fun s4 =>
    f_X7_next_52 s4) zN s0
def f_X7_rank  (p1 : Int32) (s0 : zMem) : Option (Int32 × zMem) :=
  if p1 = 0 then
    some (0, s0)
  else
    if p1 = 11 then
      some (1, s0)
    else
      if p1 = 12 then
        some (2, s0)
      else
        if p1 = 13 then
          some (3, s0)
        else
          if 15 < p1 then
            if 17 < p1 then
              if p1 = 18 then
                some (6, s0)
              else
                some (7, s0)
            else
              some (5, s0)
          else
            some (4, s0)
def f_X7_puts  (p1 : Int32) (s0 : zMem) : Option (Unit × zMem) :=
  gd (zib ((200 * (s0 47 14)) + (s0 47 31)) 1200) <|
  nm (zUp s0 56 (zix ((200 * (s0 47 14)) + (s0 47 31))) p1) fun s1 =>
  nm (zUp s1 47 31 ((s1 47 31) + 1)) fun s2 =>
  some ((), s2)
def f_X7_unwinds_0   : Nat → Int32 → zMem → Option (Unit × zMem)
  | 0, _, _ => none
  | n + 1, x1, s2 =>
    if (s2 47 29) ≤ 0 then
      some ((), s2)
    else
      gd (zib ((s2 47 29) - 1) 200) <|
      bd (f_X7_rank (s2 65 (zix ((s2 47 29) - 1))) s2) fun r3 s4 =>
      if r3 < x1 then
        some ((), s4)
      else
        nm (zUp s4 47 29 ((s4 47 29) - 1)) fun s5 =>
        gd (zib (s5 47 29) 200) <|
        nm (s5 65 (zix (s5 47 29))) fun x6 =>
        if x6 = 13 then
          nm (zUp s5 47 30 ((s5 47 30) - 1)) fun s7 =>
          bd (f_X7_puts x6 s7) fun _ s9 =>
          f_X7_unwinds_0 n x1 s9
        else
          if x6 = 19 then
            nm (zUp s5 47 30 ((s5 47 30) - 1)) fun s13 =>
            bd (f_X7_puts x6 s13) fun _ s15 =>
            f_X7_unwinds_0 n x1 s15
          else
            nm (zUp s5 47 30 ((s5 47 30) - 0)) fun s10 =>
            bd (f_X7_puts x6 s10) fun _ s12 =>
            f_X7_unwinds_0 n x1 s12
def f_X7_unwinds  (p1 : Int32) (s0 : zMem) : Option (Unit × zMem) :=
  f_X7_unwinds_0 zN p1 s0
def f_X7_holds  (p1 : Int32) (s0 : zMem) : Option (Unit × zMem) :=
  gd (zib (s0 47 29) 200) <|
  nm (zUp s0 65 (zix (s0 47 29)) p1) fun s1 =>
  nm (zUp s1 47 29 ((s1 47 29) + 1)) fun s2 =>
  some ((), s2)
def f_X7_opensOne  (p1 : Int32) (s0 : zMem) : Option (Int32 × zMem) :=
  if (s0 47 30) = 5 then
    some (0, s0)
  else
    nm (zUp s0 47 30 ((s0 47 30) + 1)) fun s1 =>
    bd (f_X7_holds p1 s1) fun _ s3 =>
    some (1, s3)
def f_X7_between_17   (x5 : Int32) (t6 : Int32) (s7 : zMem) : Option (Int32 × zMem) :=
  bd (f_X7_unwinds t6 s7) fun _ s9 =>
  bd (f_X7_rank x5 s9) fun r10 s11 =>
  if r10 = 4 then
    if (s11 47 29) ≤ 0 then
      bd (f_X7_holds x5 s11) fun _ s15 =>
      some (1, s15)
    else
      gd (zib ((s11 47 29) - 1) 200) <|
      bd (f_X7_rank (s11 65 (zix ((s11 47 29) - 1))) s11) fun r16 s17 =>
      if r16 = 4 then
        some (0, s17)
      else
        bd (f_X7_holds x5 s17) fun _ s19 =>
        some (1, s19)
  else
    bd (f_X7_holds x5 s11) fun _ s13 =>
    some (1, s13)
def f_X7_between  (p1 : Int32) (s0 : zMem) : Option (Int32 × zMem) :=
  bd (f_X7_rank p1 s0) fun r1 s2 =>
  if r1 = 4 then
    f_X7_between_17 p1 5 s2
  else
    bd (f_X7_rank p1 s2) fun r3 s4 =>
    f_X7_between_17 p1 r3 s4
def f_X7_signOf   (s0 : zMem) : Option (Int32 × zMem) :=
  if (s0 47 25) = 4 then
    some (11, s0)
  else
    if (s0 47 25) = 5 then
      some (12, s0)
    else
      if (s0 47 25) = 60 then
        some (14, s0)
      else
        if (s0 47 25) = 61 then
          some (15, s0)
        else
          if (s0 47 25) = 43 then
            some (16, s0)
          else
            if (s0 47 25) = 45 then
              some (17, s0)
            else
              if (s0 47 25) = 42 then
                some (18, s0)
              else
                some ((-1), s0)
def f_X7_eRead_38  (c14 : Int32 → Int32 → zMem → Option (Int32 × zMem)) (x18 : Int32) (s19 : zMem) : Option (Int32 × zMem) :=
  if (s19 47 25) = 1 then
    bd (f_X7_puts (100000 + (s19 47 26)) s19) fun _ s25 =>
    bd (f_X7_unwinds 7 s25) fun _ s27 =>
    c14 0 x18 s27
  else
    bd (f_X7_puts (s19 47 26) s19) fun _ s21 =>
    bd (f_X7_unwinds 7 s21) fun _ s23 =>
    c14 0 x18 s23
def f_X7_eRead_99  (c14 : Int32 → Int32 → zMem → Option (Int32 × zMem)) (x31 : Int32) (s32 : zMem) : Option (Int32 × zMem) :=
  if (s32 47 25) = 45 then
    bd (f_X7_opensOne 19 s32) fun r35 s36 =>
    if r35 = 0 then
      some (0, s36)
    else
      c14 x31 0 s36
  else
    if (s32 47 25) = 40 then
      bd (f_X7_opensOne 0 s32) fun r33 s34 =>
      if r33 = 0 then
        some (0, s34)
      else
        c14 x31 1 s34
    else
      some (0, s32)
def f_X7_eRead_14  (c159 : zMem → Option (Int32 × zMem)) : Nat → Int32 → Int32 → zMem → Option (Int32 × zMem)
  | 0, _, _, _ => none
  | n + 1, x3, x4, s5 =>
    bd (f_X7_next s5) fun _ s7 =>
    if x3 = 0 then
      if (s7 47 25) = 59 then
        c159 s7
      else
        if (s7 47 25) = 41 then
          bd (f_X7_unwinds 1 s7) fun _ s13 =>
          if (s13 47 29) = 0 then
            some (0, s13)
          else
            nm (zUp s13 47 29 ((s13 47 29) - 1)) fun s14 =>
            nm (zUp s14 47 30 ((s14 47 30) - 1)) fun s15 =>
            bd (f_X7_unwinds 7 s15) fun _ s17 =>
            f_X7_eRead_14 c159 n x3 x4 s17
        else
          bd (f_X7_signOf s7) fun r8 s9 =>
          if r8 = (-1) then
            some (0, s9)
          else
            bd (f_X7_between r8 s9) fun r10 s11 =>
            if r10 = 0 then
              some (0, s11)
            else
              if 12 < r8 then
                f_X7_eRead_14 c159 n 1 0 s11
              else
                f_X7_eRead_14 c159 n 1 1 s11
    else
      if (s7 47 25) = 1 then
        f_X7_eRead_38 (fun x28 x29 s30 =>
          f_X7_eRead_14 c159 n x28 x29 s30) x4 s7
      else
        if (s7 47 25) = 2 then
          f_X7_eRead_38 (fun x45 x46 s47 =>
            f_X7_eRead_14 c159 n x45 x46 s47) x4 s7
        else
          if (s7 47 25) = 6 then
            if x4 = 0 then
              f_X7_eRead_99 (fun x40 x41 s42 =>
                f_X7_eRead_14 c159 n x40 x41 s42) x3 s7
            else
              bd (f_X7_opensOne 13 s7) fun r43 s44 =>
              if r43 = 0 then
                some (0, s44)
              else
                f_X7_eRead_14 c159 n x3 x4 s44
          else
            f_X7_eRead_99 (fun x37 x38 s39 =>
              f_X7_eRead_14 c159 n x37 x38 s39) x3 s7
def f_X7_eRead   (s0 : zMem) : Option (Int32 × zMem) :=
  nm (zUp s0 47 29 0) fun s1 =>
  nm (zUp s1 47 30 0) fun s2 =>
  f_X7_eRead_14 (fun s48 =>
    bd (f_X7_unwinds 1 s48) fun _ s50 =>
    if (s50 47 29) = 0 then
      some (1, s50)
    else
      some (0, s50)) zN 1 1 s2
def f_X7_text_60  (c26 : Int32 → Int32 → zMem → Option (Int32 × zMem)) (x10 : Int32) (t11 : Int32) (s12 : zMem) : Option (Int32 × zMem) :=
  gd (zib ((4 * (s12 47 14)) + x10) 24) <|
  nm (zUp s12 57 (zix ((4 * (s12 47 14)) + x10)) (s12 47 31)) fun s13 =>
  if t11 = 0 then
    nm (x10 + 1) fun x14 =>
    c26 0 x14 s13
  else
    bd (f_X7_eRead s13) fun r15 s16 =>
    if r15 = 0 then
      nm (x10 + 1) fun x17 =>
      c26 0 x17 s16
    else
      nm (x10 + 1) fun x18 =>
      c26 1 x18 s16
def f_X7_text_59  (c26 : Int32 → Int32 → zMem → Option (Int32 × zMem)) (x8 : Int32) (s9 : zMem) : Option (Int32 × zMem) :=
  f_X7_text_60 (fun x19 x20 s21 =>
    c26 x19 x20 s21) x8 0 s9
def f_X7_text_26  (c101 : Int32 → zMem → Option (Int32 × zMem)) : Nat → Int32 → Int32 → zMem → Option (Int32 × zMem)
  | 0, _, _, _ => none
  | n + 1, x3, x4, s5 =>
    if 3 ≤ x4 then
      c101 x3 s5
    else
      if x3 = 0 then
        c101 x3 s5
      else
        bd (f_X7_next s5) fun _ s7 =>
        if (s7 47 25) = 3 then
          if (s7 47 26) = x4 then
            f_X7_text_60 (fun x28 x29 s30 =>
              f_X7_text_26 c101 n x28 x29 s30) x4 1 s7
          else
            f_X7_text_59 (fun x25 x26 s27 =>
              f_X7_text_26 c101 n x25 x26 s27) x4 s7
        else
          f_X7_text_59 (fun x22 x23 s24 =>
            f_X7_text_26 c101 n x22 x23 s24) x4 s7
def f_X7_text_122   (x35 : Int32) (s36 : zMem) : Option (Int32 × zMem) :=
  gd (zib ((4 * (s36 47 14)) + 3) 24) <|
  nm (zUp s36 57 (zix ((4 * (s36 47 14)) + 3)) (s36 47 31)) fun s37 =>
  nm (zUp s37 47 11 0) fun s38 =>
  if x35 = 0 then
    some ((-100) - (s38 47 24), s38)
  else
    nm (zUp s38 47 14 ((s38 47 14) + 1)) fun s39 =>
    some ((s39 47 14) - 1, s39)
def f_X7_text_121   (t42 : Int32) (s43 : zMem) : Option (Int32 × zMem) :=
  f_X7_text_122 t42 s43
def f_X7_text_101   (x33 : Int32) (s34 : zMem) : Option (Int32 × zMem) :=
  if x33 = 0 then
    f_X7_text_122 x33 s34
  else
    bd (f_X7_next s34) fun _ s41 =>
    if (s41 47 25) = 0 then
      f_X7_text_121 1 s41
    else
      f_X7_text_121 0 s41
def f_X7_text   (s0 : zMem) : Option (Int32 × zMem) :=
  if (s0 47 14) = 6 then
    some ((-4), s0)
  else
    nm (zUp s0 47 23 0) fun s1 =>
    nm (zUp s1 47 31 0) fun s2 =>
    f_X7_text_26 (fun x31 s32 =>
      f_X7_text_101 x31 s32) zN 1 0 s2
def f_X7_two  (p1 : Int32) (p2 : Int32) (p3 : Int32) (s0 : zMem) : Option (Int32 × zMem) :=
  if p1 = 11 then
    if p2 = 0 then
      if p3 = 0 then
        some (0, s0)
      else
        some (1, s0)
    else
      some (1, s0)
  else if p1 = 12 then
    if p2 = 0 then
      some (0, s0)
    else
      if p3 = 0 then
        some (0, s0)
      else
        some (1, s0)
  else if p1 = 13 then
    some (p2 * p3, s0)
  else if p1 = 14 then
    if p3 ≤ p2 then
      some (0, s0)
    else
      some (1, s0)
  else if p1 = 15 then
    if p2 = p3 then
      some (1, s0)
    else
      some (0, s0)
  else if p1 = 16 then
    some (p2 + p3, s0)
  else if p1 = 17 then
    some (p2 - p3, s0)
  else
    some (p2 * p3, s0)
def f_X7_says_66  (c16 : Int32 → Int32 → Int32 → zMem → Option (Int32 × zMem)) (x7 : Int32) (x8 : Int32) (x9 : Int32) (x10 : Int32) (s11 : zMem) : Option (Int32 × zMem) :=
  if 11 ≤ x10 then
    gd (zib x8 200) <|
    nm (zUp s11 66 (zix x8) (x10 - 100000)) fun s12 =>
    nm (x8 + 1) fun x13 =>
    nm (x9 + 1) fun x14 =>
    c16 x7 x13 x14 s12
  else
    gd (zib x10 6) <|
    gd (zib x8 200) <|
    nm (zUp s11 66 (zix x8) (s11 67 (zix x10))) fun s15 =>
    nm (x8 + 1) fun x16 =>
    nm (x9 + 1) fun x17 =>
    c16 x7 x16 x17 s15
def f_X7_says_16   : Nat → Int32 → Int32 → Int32 → zMem → Option (Int32 × zMem)
  | 0, _, _, _, _ => none
  | n + 1, x2, x3, x4, s5 =>
    gd (zib (((4 * (s5 47 15)) + x2) + 1) 24) <|
    if (s5 57 (zix (((4 * (s5 47 15)) + x2) + 1))) ≤ x4 then
      gd (zib 0 200) <|
      some (s5 66 (zix 0), s5)
    else
      gd (zib ((200 * (s5 47 15)) + x4) 1200) <|
      nm (s5 56 (zix ((200 * (s5 47 15)) + x4))) fun x6 =>
      if 100000 ≤ x6 then
        f_X7_says_66 (fun x18 x19 x20 s21 =>
          f_X7_says_16 n x18 x19 x20 s21) x2 x3 x4 x6 s5
      else
        if 11 ≤ x6 then
          if x6 = 13 then
            gd (zib (x3 - 1) 200) <|
            if (s5 66 (zix (x3 - 1))) = 0 then
              gd (zib (x3 - 1) 200) <|
              nm (zUp s5 66 (zix (x3 - 1)) 1) fun s31 =>
              nm (x4 + 1) fun x32 =>
              f_X7_says_16 n x2 x3 x32 s31
            else
              gd (zib (x3 - 1) 200) <|
              nm (zUp s5 66 (zix (x3 - 1)) 0) fun s29 =>
              nm (x4 + 1) fun x30 =>
              f_X7_says_16 n x2 x3 x30 s29
          else
            if x6 = 19 then
              gd (zib (x3 - 1) 200) <|
              gd (zib (x3 - 1) 200) <|
              nm (zUp s5 66 (zix (x3 - 1)) (-(s5 66 (zix (x3 - 1))))) fun s27 =>
              nm (x4 + 1) fun x28 =>
              f_X7_says_16 n x2 x3 x28 s27
            else
              nm (x3 + (-1)) fun x22 =>
              gd (zib (x22 - 1) 200) <|
              gd (zib x22 200) <|
              bd (f_X7_two x6 (s5 66 (zix (x22 - 1))) (s5 66 (zix x22)) s5) fun r23 s24 =>
              gd (zib (x22 - 1) 200) <|
              nm (zUp s24 66 (zix (x22 - 1)) r23) fun s25 =>
              nm (x4 + 1) fun x26 =>
              f_X7_says_16 n x2 x22 x26 s25
        else
          f_X7_says_66 (fun x33 x34 x35 s36 =>
            f_X7_says_16 n x33 x34 x35 s36) x2 x3 x4 x6 s5
def f_X7_says  (p1 : Int32) (s0 : zMem) : Option (Int32 × zMem) :=
  gd (zib ((4 * (s0 47 15)) + p1) 24) <|
  nm (s0 57 (zix ((4 * (s0 47 15)) + p1))) fun x1 =>
  f_X7_says_16 zN p1 0 x1 s0
def f_X7_force  (p1 : Int32) (s0 : zMem) : Option (Int32 × zMem) :=
  bd (f_X7_in p1 0 ((s0 47 14) - 1) s0) fun r1 s2 =>
  if r1 = 0 then
    some ((-2), s2)
  else
    nm (s2 47 15) fun x3 =>
    nm (zUp s2 47 15 p1) fun s4 =>
    some (x3, s4)
def f_X7_asksOf  (p1 : Int32) (p2 : Int32) (p3 : Int32) (s0 : zMem) : Option (Int32 × zMem) :=
  gd (zib (3 * p2) 18) <|
  gd (zib 0 6) <|
  nm (zUp s0 67 (zix 0) (s0 50 (zix (3 * p2)))) fun s1 =>
  gd (zib ((3 * p2) + 1) 18) <|
  gd (zib 1 6) <|
  nm (zUp s1 67 (zix 1) (s1 50 (zix ((3 * p2) + 1)))) fun s2 =>
  gd (zib 2 6) <|
  nm (zUp s2 67 (zix 2) (s2 47 9)) fun s3 =>
  gd (zib 3 6) <|
  nm (zUp s3 67 (zix 3) p3) fun s4 =>
  bd (f_X7_owedBy p2 s4) fun r5 s6 =>
  gd (zib 4 6) <|
  nm (zUp s6 67 (zix 4) r5) fun s7 =>
  gd (zib p2 6) <|
  gd (zib 5 6) <|
  nm (zUp s7 67 (zix 5) (s7 49 (zix p2))) fun s8 =>
  bd (f_X7_says p1 s8) fun r9 s10 =>
  bd (f_X7_within r9 0 99 s10) fun r11 s12 =>
  some (r11, s12)
def f_X7_asks  (p1 : Int32) (p2 : Int32) (p3 : Int32) (s0 : zMem) : Option (Int32 × zMem) :=
  bd (f_X7_in p1 0 2 s0) fun r1 s2 =>
  if r1 = 0 then
    some ((-2), s2)
  else
    bd (f_X7_isHut p2 s2) fun r3 s4 =>
    if r3 = 0 then
      some ((-2), s4)
    else
      bd (f_X7_in p3 0 9999 s4) fun r5 s6 =>
      if r5 = 0 then
        some ((-2), s6)
      else
        bd (f_X7_asksOf p1 p2 p3 s6) fun r7 s8 =>
        some (r7, s8)
def f_X7_hut  (p1 : Int32) (p2 : Int32) (s0 : zMem) : Option (Int32 × zMem) :=
  bd (f_X7_in p1 0 59 s0) fun r1 s2 =>
  if r1 = 0 then
    some ((-2), s2)
  else
    bd (f_X7_in p2 0 999999 s2) fun r3 s4 =>
    if r3 = 0 then
      some ((-2), s4)
    else
      if (s4 47 0) = 6 then
        some ((-4), s4)
      else
        gd (zib (s4 47 0) 6) <|
        nm (zUp s4 48 (zix (s4 47 0)) (p1 / 10)) fun s5 =>
        gd (zib (s5 47 0) 6) <|
        nm (zUp s5 49 (zix (s5 47 0)) (zrem p1 10)) fun s6 =>
        gd (zib (3 * (s6 47 0)) 18) <|
        nm (zUp s6 50 (zix (3 * (s6 47 0))) (p2 / 100)) fun s7 =>
        gd (zib ((3 * (s7 47 0)) + 1) 18) <|
        nm (zUp s7 50 (zix ((3 * (s7 47 0)) + 1)) (zrem p2 100)) fun s8 =>
        gd (zib ((3 * (s8 47 0)) + 2) 18) <|
        nm (zUp s8 50 (zix ((3 * (s8 47 0)) + 2)) 0) fun s9 =>
        nm (zUp s9 47 0 ((s9 47 0) + 1)) fun s10 =>
        some ((s10 47 0) - 1, s10)
def f_X7_put_34   (x5 : Int32) (x6 : Int32) (x7 : Int32) (t8 : Int32) (t9 : Int32) (t10 : Int32) (s11 : zMem) : Option (Int32 × zMem) :=
  bd (f_X7_in t10 t9 t8 s11) fun r12 s13 =>
  if r12 = 0 then
    some ((-7), s13)
  else
    gd (zib ((3 * x5) + x6) 18) <|
    nm (s13 50 (zix ((3 * x5) + x6))) fun x14 =>
    gd (zib ((3 * x5) + x6) 18) <|
    nm (zUp s13 50 (zix ((3 * x5) + x6)) x7) fun s15 =>
    some (x14, s15)
def f_X7_put  (p1 : Int32) (p2 : Int32) (p3 : Int32) (s0 : zMem) : Option (Int32 × zMem) :=
  bd (f_X7_isHut p1 s0) fun r1 s2 =>
  if r1 = 0 then
    some ((-5), s2)
  else
    bd (f_X7_in p2 0 2 s2) fun r3 s4 =>
    if r3 = 0 then
      some ((-7), s4)
    else
      if p2 = 0 then
        f_X7_put_34 p1 p2 p3 9999 0 p3 s4
      else
        f_X7_put_34 p1 p2 p3 99 0 p3 s4
def f_X7_told  (p1 : Int32) (p2 : Int32) (s0 : zMem) : Option (Int32 × zMem) :=
  bd (f_X7_isHut p1 s0) fun r1 s2 =>
  if r1 = 0 then
    some ((-5), s2)
  else
    if p2 = 0 then
      gd (zib ((3 * p1) + p2) 18) <|
      some (s2 50 (zix ((3 * p1) + p2)), s2)
    else if p2 = 1 then
      gd (zib ((3 * p1) + p2) 18) <|
      some (s2 50 (zix ((3 * p1) + p2)), s2)
    else if p2 = 2 then
      gd (zib ((3 * p1) + p2) 18) <|
      some (s2 50 (zix ((3 * p1) + p2)), s2)
    else if p2 = 3 then
      gd (zib p1 6) <|
      some (s2 48 (zix p1), s2)
    else if p2 = 4 then
      gd (zib p1 6) <|
      some (s2 49 (zix p1), s2)
    else if p2 = 5 then
      bd (f_X7_owedBy p1 s2) fun r3 s4 =>
      some (r3, s4)
    else if p2 = 6 then
      bd (f_X7_owedTo p1 s2) fun r5 s6 =>
      some (r5, s6)
    else if p2 = 7 then
      bd (f_X7_lentBy p1 s2) fun r7 s8 =>
      some (r7, s8)
    else
      some ((-7), s2)
def f_X7_areCoalNights  (p1 : Int32) (s0 : zMem) : Option (Int32 × zMem) :=
  bd (f_X7_in p1 101 999999 s0) fun r1 s2 =>
  if r1 = 0 then
    some (0, s2)
  else
    if (zrem p1 100) ≤ 0 then
      some (0, s2)
    else
      some (1, s2)
def f_X7_mayLend  (p1 : Int32) (p2 : Int32) (s0 : zMem) : Option (Int32 × zMem) :=
  gd (zib ((3 * p1) + 2) 18) <|
  if (s0 50 (zix ((3 * p1) + 2))) = 0 then
    gd (zib (3 * p1) 18) <|
    if (s0 50 (zix (3 * p1))) < p2 then
      some (0, s0)
    else
      some (1, s0)
  else
    some (0, s0)
def f_X7_moves  (p1 : Int32) (p2 : Int32) (p3 : Int32) (s0 : zMem) : Option (Unit × zMem) :=
  gd (zib (3 * p1) 18) <|
  gd (zib (3 * p1) 18) <|
  nm (zUp s0 50 (zix (3 * p1)) ((s0 50 (zix (3 * p1))) - p3)) fun s1 =>
  gd (zib (3 * p2) 18) <|
  bd (f_X7_within ((s1 50 (zix (3 * p2))) + p3) 0 9999 s1) fun r2 s3 =>
  gd (zib (3 * p2) 18) <|
  nm (zUp s3 50 (zix (3 * p2)) r2) fun s4 =>
  some ((), s4)
def f_X7_lends  (p1 : Int32) (p2 : Int32) (p3 : Int32) (s0 : zMem) : Option (Unit × zMem) :=
  gd (zib (s0 47 8) 10) <|
  nm (zUp s0 51 (zix (s0 47 8)) p1) fun s1 =>
  gd (zib (s1 47 8) 10) <|
  nm (zUp s1 52 (zix (s1 47 8)) p2) fun s2 =>
  gd (zib (s2 47 8) 10) <|
  nm (zUp s2 53 (zix (s2 47 8)) (p3 / 100)) fun s3 =>
  gd (zib (s3 47 8) 10) <|
  nm (zUp s3 54 (zix (s3 47 8)) ((s3 47 9) + (zrem p3 100))) fun s4 =>
  bd (f_X7_moves p1 p2 (p3 / 100) s4) fun _ s6 =>
  nm (zUp s6 47 8 ((s6 47 8) + 1)) fun s7 =>
  some ((), s7)
def f_X7_lend  (p1 : Int32) (p2 : Int32) (s0 : zMem) : Option (Int32 × zMem) :=
  nm (p1 / 10) fun x1 =>
  nm (zrem p1 10) fun x2 =>
  bd (f_X7_in p1 0 55 s0) fun r3 s4 =>
  if r3 = 0 then
    some ((-5), s4)
  else
    bd (f_X7_isHut x1 s4) fun r5 s6 =>
    if r5 = 0 then
      some ((-5), s6)
    else
      bd (f_X7_isHut x2 s6) fun r7 s8 =>
      if r7 = 0 then
        some ((-5), s8)
      else
        if x1 = x2 then
          some ((-5), s8)
        else
          bd (f_X7_areCoalNights p2 s8) fun r9 s10 =>
          if r9 = 0 then
            some ((-7), s10)
          else
            if (s10 47 8) = 10 then
              some ((-4), s10)
            else
              bd (f_X7_mayLend x1 (p2 / 100) s10) fun r11 s12 =>
              if r11 = 0 then
                some ((-3), s12)
              else
                bd (f_X7_lends x1 x2 p2 s12) fun _ s14 =>
                some ((s14 47 8) - 1, s14)
def f_X7_loan  (p1 : Int32) (p2 : Int32) (s0 : zMem) : Option (Int32 × zMem) :=
  bd (f_X7_isLoan p1 s0) fun r1 s2 =>
  if r1 = 0 then
    some ((-5), s2)
  else
    if p2 = 0 then
      gd (zib p1 10) <|
      some (s2 51 (zix p1), s2)
    else if p2 = 1 then
      gd (zib p1 10) <|
      some (s2 52 (zix p1), s2)
    else if p2 = 2 then
      gd (zib p1 10) <|
      some (s2 53 (zix p1), s2)
    else if p2 = 3 then
      gd (zib p1 10) <|
      some (s2 54 (zix p1), s2)
    else
      some ((-7), s2)
def f_X7_drops_2  (c74 : zMem → Option (Unit × zMem)) : Nat → Int32 → zMem → Option (Unit × zMem)
  | 0, _, _ => none
  | n + 1, x1, s2 =>
    if (s2 47 8) ≤ (x1 + 1) then
      c74 s2
    else
      gd (zib (x1 + 1) 10) <|
      gd (zib x1 10) <|
      nm (zUp s2 51 (zix x1) (s2 51 (zix (x1 + 1)))) fun s3 =>
      gd (zib (x1 + 1) 10) <|
      gd (zib x1 10) <|
      nm (zUp s3 52 (zix x1) (s3 52 (zix (x1 + 1)))) fun s4 =>
      gd (zib (x1 + 1) 10) <|
      gd (zib x1 10) <|
      nm (zUp s4 53 (zix x1) (s4 53 (zix (x1 + 1)))) fun s5 =>
      gd (zib (x1 + 1) 10) <|
      gd (zib x1 10) <|
      nm (zUp s5 54 (zix x1) (s5 54 (zix (x1 + 1)))) fun s6 =>
      nm (x1 + 1) fun x7 =>
      f_X7_drops_2 c74 n x7 s6
def f_X7_drops  (p1 : Int32) (s0 : zMem) : Option (Unit × zMem) :=
  f_X7_drops_2 (fun s8 =>
    nm (zUp s8 47 8 ((s8 47 8) - 1)) fun s9 =>
    some ((), s9)) zN p1 s0
def f_X7_repay  (p1 : Int32) (s0 : zMem) : Option (Int32 × zMem) :=
  bd (f_X7_isLoan p1 s0) fun r1 s2 =>
  if r1 = 0 then
    some ((-5), s2)
  else
    gd (zib p1 10) <|
    nm (s2 53 (zix p1)) fun x3 =>
    gd (zib p1 10) <|
    gd (zib (3 * (s2 52 (zix p1))) 18) <|
    if x3 ≤ (s2 50 (zix (3 * (s2 52 (zix p1))))) then
      gd (zib p1 10) <|
      gd (zib p1 10) <|
      bd (f_X7_moves (s2 52 (zix p1)) (s2 51 (zix p1)) x3 s2) fun _ s5 =>
      bd (f_X7_drops p1 s5) fun _ s7 =>
      some (x3, s7)
    else
      some ((-3), s2)
def f_X7_forgive  (p1 : Int32) (s0 : zMem) : Option (Int32 × zMem) :=
  bd (f_X7_isLoan p1 s0) fun r1 s2 =>
  if r1 = 0 then
    some ((-5), s2)
  else
    gd (zib p1 10) <|
    nm (s2 53 (zix p1)) fun x3 =>
    bd (f_X7_drops p1 s2) fun _ s5 =>
    some (x3, s5)
def f_X7_growsOf  (p1 : Int32) (p2 : Int32) (s0 : zMem) : Option (Int32 × zMem) :=
  bd (f_X7_asksOf 0 p1 p2 s0) fun r1 s2 =>
  gd (zib p1 6) <|
  nm (s2 48 (zix p1)) fun x3 =>
  if x3 = 1 then
    if p2 ≤ 50 then
      some (r1, s2)
    else
      gd (zib p1 6) <|
      some (r1 + (s2 49 (zix p1)), s2)
  else if x3 = 2 then
    some (r1, s2)
  else if x3 = 3 then
    if p2 ≤ 50 then
      some (r1, s2)
    else
      gd (zib p1 6) <|
      some (r1 + (s2 49 (zix p1)), s2)
  else if x3 = 4 then
    some ((2 * r1) + 1, s2)
  else if x3 = 5 then
    some (0, s2)
  else
    some (r1, s2)
def f_X7_coolsOf  (p1 : Int32) (s0 : zMem) : Option (Int32 × zMem) :=
  bd (f_X7_asksOf 1 p1 0 s0) fun r1 s2 =>
  gd (zib (3 * p1) 18) <|
  nm (s2 50 (zix (3 * p1))) fun x3 =>
  gd (zib p1 6) <|
  nm (s2 48 (zix p1)) fun x4 =>
  if x4 = 1 then
    some (r1 / 2, s2)
  else if x4 = 2 then
    some (r1 + (x3 / 20), s2)
  else if x4 = 3 then
    if x3 ≤ 200 then
      some (r1 / 2, s2)
    else
      some (x3, s2)
  else if x4 = 4 then
    some (r1 + (x3 / 20), s2)
  else
    some (r1, s2)
def f_X7_burnsOf  (p1 : Int32) (s0 : zMem) : Option (Int32 × zMem) :=
  bd (f_X7_asksOf 2 p1 0 s0) fun r1 s2 =>
  gd (zib p1 6) <|
  nm (s2 48 (zix p1)) fun x3 =>
  if x3 = 2 then
    some (2 * r1, s2)
  else if x3 = 3 then
    gd (zib p1 6) <|
    some (r1 + (s2 49 (zix p1)), s2)
  else if x3 = 4 then
    gd (zib p1 6) <|
    if (s2 49 (zix p1)) ≤ (s2 47 9) then
      some (2 * r1, s2)
    else
      some (0, s2)
  else if x3 = 5 then
    if (zrem (s2 47 9) 2) = 1 then
      some (30, s2)
    else
      some (0, s2)
  else
    some (r1, s2)
def f_X7_hearth_97   (x1 : Int32) (s2 : zMem) : Option (Unit × zMem) :=
  gd (zib (3 * x1) 18) <|
  bd (f_X7_coolsOf x1 s2) fun r3 s4 =>
  nm ((s2 50 (zix (3 * x1))) - r3) fun x5 =>
  if 0 ≤ x5 then
    gd (zib (3 * x1) 18) <|
    nm (zUp s4 50 (zix (3 * x1)) x5) fun s6 =>
    some ((), s6)
  else
    gd (zib (3 * x1) 18) <|
    nm (zUp s4 50 (zix (3 * x1)) 0) fun s7 =>
    some ((), s7)
def f_X7_hearth  (p1 : Int32) (s0 : zMem) : Option (Unit × zMem) :=
  gd (zib ((3 * p1) + 2) 18) <|
  if (s0 50 (zix ((3 * p1) + 2))) ≤ 0 then
    gd (zib ((3 * p1) + 1) 18) <|
    if (s0 50 (zix ((3 * p1) + 1))) ≤ 0 then
      f_X7_hearth_97 p1 s0
    else
      bd (f_X7_burnsOf p1 s0) fun r8 s9 =>
      gd (zib (3 * p1) 18) <|
      bd (f_X7_within ((s9 50 (zix (3 * p1))) + r8) 0 9999 s9) fun r10 s11 =>
      gd (zib (3 * p1) 18) <|
      nm (zUp s11 50 (zix (3 * p1)) r10) fun s12 =>
      gd (zib ((3 * p1) + 1) 18) <|
      gd (zib ((3 * p1) + 1) 18) <|
      nm (zUp s12 50 (zix ((3 * p1) + 1)) ((s12 50 (zix ((3 * p1) + 1))) - 1)) fun s13 =>
      f_X7_hearth_97 p1 s13
  else
    gd (zib ((3 * p1) + 2) 18) <|
    gd (zib ((3 * p1) + 2) 18) <|
    nm (zUp s0 50 (zix ((3 * p1) + 2)) ((s0 50 (zix ((3 * p1) + 2))) - 1)) fun s14 =>
    gd (zib (3 * p1) 18) <|
    nm (zUp s14 50 (zix (3 * p1)) 0) fun s15 =>
    some ((), s15)
def f_X7_nightOf_4  (c54 : Int32 → zMem → Option (Int32 × zMem)) : Nat → Int32 → Int32 → zMem → Option (Int32 × zMem)
  | 0, _, _, _ => none
  | n + 1, x1, x2, s3 =>
    if (s3 47 8) ≤ x2 then
      c54 x1 s3
    else
      gd (zib x2 10) <|
      gd (zib x2 10) <|
      gd (zib x2 10) <|
      bd (f_X7_growsOf (s3 52 (zix x2)) (s3 53 (zix x2)) s3) fun r4 s5 =>
      bd (f_X7_within ((s3 53 (zix x2)) + r4) 0 9999 s5) fun r6 s7 =>
      gd (zib x2 10) <|
      nm (zUp s7 53 (zix x2) r6) fun s8 =>
      nm (x2 + 1) fun x9 =>
      f_X7_nightOf_4 c54 n x1 x9 s8
def f_X7_nightOf_56  (c153 : Int32 → zMem → Option (Int32 × zMem)) : Nat → Int32 → Int32 → zMem → Option (Int32 × zMem)
  | 0, _, _, _ => none
  | n + 1, x12, x13, s14 =>
    if (s14 47 8) ≤ x13 then
      c153 x12 s14
    else
      gd (zib x13 10) <|
      if (s14 54 (zix x13)) ≤ (s14 47 9) then
        gd (zib x13 10) <|
        nm (s14 52 (zix x13)) fun x15 =>
        gd (zib (3 * x15) 18) <|
        gd (zib x13 10) <|
        if (s14 50 (zix (3 * x15))) < (s14 53 (zix x13)) then
          gd (zib ((3 * x15) + 2) 18) <|
          nm (zUp s14 50 (zix ((3 * x15) + 2)) 20) fun s16 =>
          nm (x12 ||| (1 <<< (x15 &&& 31))) fun x17 =>
          bd (f_X7_drops x13 s16) fun _ s19 =>
          f_X7_nightOf_56 c153 n x17 x13 s19
        else
          gd (zib x13 10) <|
          gd (zib x13 10) <|
          bd (f_X7_moves x15 (s14 51 (zix x13)) (s14 53 (zix x13)) s14) fun _ s21 =>
          bd (f_X7_drops x13 s21) fun _ s23 =>
          f_X7_nightOf_56 c153 n x12 x13 s23
      else
        nm (x13 + 1) fun x24 =>
        f_X7_nightOf_56 c153 n x12 x24 s14
def f_X7_nightOf_155  (c174 : Int32 → zMem → Option (Int32 × zMem)) : Nat → Int32 → Int32 → zMem → Option (Int32 × zMem)
  | 0, _, _, _ => none
  | n + 1, x27, x28, s29 =>
    if (s29 47 0) ≤ x28 then
      c174 x27 s29
    else
      bd (f_X7_hearth x28 s29) fun _ s31 =>
      nm (x28 + 1) fun x32 =>
      f_X7_nightOf_155 c174 n x27 x32 s31
def f_X7_nightOf   (s0 : zMem) : Option (Int32 × zMem) :=
  f_X7_nightOf_4 (fun x10 s11 =>
    f_X7_nightOf_56 (fun x25 s26 =>
      f_X7_nightOf_155 (fun x33 s34 =>
        nm (zUp s34 47 9 ((s34 47 9) + 1)) fun s35 =>
        some (x33, s35)) zN x25 0 s26) zN x10 0 s11) zN 0 0 s0
def f_X7_night   (s0 : zMem) : Option (Int32 × zMem) :=
  if (s0 47 9) = 999 then
    some ((-3), s0)
  else
    bd (f_X7_nightOf s0) fun r1 s2 =>
    some (r1, s2)
def f_X7_keeps_2  (c26 : zMem → Option (Unit × zMem)) : Nat → Int32 → zMem → Option (Unit × zMem)
  | 0, _, _ => none
  | n + 1, x1, s2 =>
    if 18 ≤ x1 then
      c26 s2
    else
      gd (zib x1 18) <|
      gd (zib x1 60) <|
      nm (zUp s2 68 (zix x1) (s2 50 (zix x1))) fun s3 =>
      nm (x1 + 1) fun x4 =>
      f_X7_keeps_2 c26 n x4 s3
def f_X7_keeps_28  (c100 : zMem → Option (Unit × zMem)) : Nat → Int32 → zMem → Option (Unit × zMem)
  | 0, _, _ => none
  | n + 1, x6, s7 =>
    if 10 ≤ x6 then
      c100 s7
    else
      gd (zib x6 10) <|
      gd (zib (18 + x6) 60) <|
      nm (zUp s7 68 (zix (18 + x6)) (s7 51 (zix x6))) fun s8 =>
      gd (zib x6 10) <|
      gd (zib (28 + x6) 60) <|
      nm (zUp s8 68 (zix (28 + x6)) (s8 52 (zix x6))) fun s9 =>
      gd (zib x6 10) <|
      gd (zib (38 + x6) 60) <|
      nm (zUp s9 68 (zix (38 + x6)) (s9 53 (zix x6))) fun s10 =>
      gd (zib x6 10) <|
      gd (zib (48 + x6) 60) <|
      nm (zUp s10 68 (zix (48 + x6)) (s10 54 (zix x6))) fun s11 =>
      nm (x6 + 1) fun x12 =>
      f_X7_keeps_28 c100 n x12 s11
def f_X7_keeps   (s0 : zMem) : Option (Unit × zMem) :=
  f_X7_keeps_2 (fun s5 =>
    f_X7_keeps_28 (fun s13 =>
      gd (zib 58 60) <|
      nm (zUp s13 68 (zix 58) (s13 47 8)) fun s14 =>
      gd (zib 59 60) <|
      nm (zUp s14 68 (zix 59) (s14 47 9)) fun s15 =>
      some ((), s15)) zN 0 s5) zN 0 s0
def f_X7_lays_2  (c26 : zMem → Option (Unit × zMem)) : Nat → Int32 → zMem → Option (Unit × zMem)
  | 0, _, _ => none
  | n + 1, x1, s2 =>
    if 18 ≤ x1 then
      c26 s2
    else
      gd (zib x1 60) <|
      gd (zib x1 18) <|
      nm (zUp s2 50 (zix x1) (s2 68 (zix x1))) fun s3 =>
      nm (x1 + 1) fun x4 =>
      f_X7_lays_2 c26 n x4 s3
def f_X7_lays_28  (c100 : zMem → Option (Unit × zMem)) : Nat → Int32 → zMem → Option (Unit × zMem)
  | 0, _, _ => none
  | n + 1, x6, s7 =>
    if 10 ≤ x6 then
      c100 s7
    else
      gd (zib (18 + x6) 60) <|
      gd (zib x6 10) <|
      nm (zUp s7 51 (zix x6) (s7 68 (zix (18 + x6)))) fun s8 =>
      gd (zib (28 + x6) 60) <|
      gd (zib x6 10) <|
      nm (zUp s8 52 (zix x6) (s8 68 (zix (28 + x6)))) fun s9 =>
      gd (zib (38 + x6) 60) <|
      gd (zib x6 10) <|
      nm (zUp s9 53 (zix x6) (s9 68 (zix (38 + x6)))) fun s10 =>
      gd (zib (48 + x6) 60) <|
      gd (zib x6 10) <|
      nm (zUp s10 54 (zix x6) (s10 68 (zix (48 + x6)))) fun s11 =>
      nm (x6 + 1) fun x12 =>
      f_X7_lays_28 c100 n x12 s11
def f_X7_lays   (s0 : zMem) : Option (Unit × zMem) :=
  f_X7_lays_2 (fun s5 =>
    f_X7_lays_28 (fun s13 =>
      gd (zib 58 60) <|
      nm (zUp s13 47 8 (s13 68 (zix 58))) fun s14 =>
      gd (zib 59 60) <|
      nm (zUp s14 47 9 (s14 68 (zix 59))) fun s15 =>
      some ((), s15)) zN 0 s5) zN 0 s0
def f_X7_goes_4   : Nat → Int32 → Int32 → Int32 → zMem → Option (Int32 × zMem)
  | 0, _, _, _, _ => none
  | n + 1, x1, x2, x3, s4 =>
    if x1 ≤ x3 then
      some (x2, s4)
    else
      bd (f_X7_nightOf s4) fun r5 s6 =>
      nm (x2 ||| r5) fun x7 =>
      nm (x3 + 1) fun x8 =>
      f_X7_goes_4 n x1 x7 x8 s6
def f_X7_goes  (p1 : Int32) (s0 : zMem) : Option (Int32 × zMem) :=
  f_X7_goes_4 zN p1 0 0 s0
def f_X7_ones_4   : Nat → Int32 → Int32 → Int32 → zMem → Option (Int32 × zMem)
  | 0, _, _, _, _ => none
  | n + 1, x1, x2, x3, s4 =>
    if 6 ≤ x3 then
      some (x2, s4)
    else
      nm (x2 + ((x1 >>> (x3 &&& 31)) &&& 1)) fun x5 =>
      nm (x3 + 1) fun x6 =>
      f_X7_ones_4 n x1 x5 x6 s4
def f_X7_ones  (p1 : Int32) (s0 : zMem) : Option (Int32 × zMem) :=
  f_X7_ones_4 zN p1 0 0 s0
def f_X7_run_38   (x5 : Int32) (x6 : Int32) (s7 : zMem) : Option (Int32 × zMem) :=
  bd (f_X7_keeps s7) fun _ s9 =>
  bd (f_X7_goes x5 s9) fun r10 s11 =>
  if x6 = 0 then
    bd (f_X7_heatAll s11) fun r22 s23 =>
    bd (f_X7_lays s23) fun _ s25 =>
    some (r22, s25)
  else
    if x6 = 1 then
      bd (f_X7_lays s11) fun _ s21 =>
      some (r10, s21)
    else
      if x6 = 2 then
        nm (s11 47 8) fun x17 =>
        bd (f_X7_lays s11) fun _ s19 =>
        some (x17, s19)
      else
        bd (f_X7_within (x6 - 10) 0 5 s11) fun r12 s13 =>
        gd (zib (3 * r12) 18) <|
        nm (s13 50 (zix (3 * r12))) fun x14 =>
        bd (f_X7_lays s13) fun _ s16 =>
        some (x14, s16)
def f_X7_run  (p1 : Int32) (p2 : Int32) (s0 : zMem) : Option (Int32 × zMem) :=
  bd (f_X7_in p1 0 40 s0) fun r1 s2 =>
  if r1 = 0 then
    some ((-2), s2)
  else
    bd (f_X7_in p2 0 2 s2) fun r3 s4 =>
    if r3 = 0 then
      bd (f_X7_in p2 10 (9 + (s4 47 0)) s4) fun r26 s27 =>
      if r26 = 0 then
        some ((-2), s27)
      else
        f_X7_run_38 p1 p2 s27
    else
      f_X7_run_38 p1 p2 s4
def f_X7_lasts_50  (c126 : Int32 → zMem → Option (Int32 × zMem)) : Nat → Int32 → Int32 → Int32 → Int32 → zMem → Option (Int32 × zMem)
  | 0, _, _, _, _, _ => none
  | n + 1, x11, x12, x13, x14, s15 =>
    if 40 < x14 then
      c126 x13 s15
    else
      if x13 = (-1) then
        bd (f_X7_nightOf s15) fun r16 s17 =>
        if x12 = 0 then
          if ((r16 >>> (x11 &&& 31)) &&& 1) = 1 then
            nm (x14 + 1) fun x21 =>
            f_X7_lasts_50 c126 n x11 x12 x14 x21 s17
          else
            nm (x14 + 1) fun x20 =>
            f_X7_lasts_50 c126 n x11 x12 (-1) x20 s17
        else
          gd (zib (3 * x11) 18) <|
          if (s17 50 (zix (3 * x11))) = 0 then
            nm (x14 + 1) fun x19 =>
            f_X7_lasts_50 c126 n x11 x12 x14 x19 s17
          else
            nm (x14 + 1) fun x18 =>
            f_X7_lasts_50 c126 n x11 x12 (-1) x18 s17
      else
        c126 x13 s15
def f_X7_lasts_47   (x7 : Int32) (x8 : Int32) (x9 : Int32) (s10 : zMem) : Option (Int32 × zMem) :=
  f_X7_lasts_50 (fun x22 s23 =>
    bd (f_X7_lays s23) fun _ s25 =>
    some (x22, s25)) zN x7 x8 x9 1 s10
def f_X7_lasts  (p1 : Int32) (p2 : Int32) (s0 : zMem) : Option (Int32 × zMem) :=
  bd (f_X7_isHut p1 s0) fun r1 s2 =>
  if r1 = 0 then
    some ((-5), s2)
  else
    bd (f_X7_in p2 0 1 s2) fun r3 s4 =>
    if r3 = 0 then
      some ((-7), s4)
    else
      bd (f_X7_keeps s4) fun _ s6 =>
      if p2 = 1 then
        gd (zib (3 * p1) 18) <|
        if (s6 50 (zix (3 * p1))) = 0 then
          f_X7_lasts_47 p1 p2 0 s6
        else
          f_X7_lasts_47 p1 p2 (-1) s6
      else
        f_X7_lasts_47 p1 p2 (-1) s6
def f_X7_net  (p1 : Int32) (s0 : zMem) : Option (Int32 × zMem) :=
  bd (f_X7_isHut p1 s0) fun r1 s2 =>
  if r1 = 0 then
    some ((-1000000), s2)
  else
    bd (f_X7_owedTo p1 s2) fun r3 s4 =>
    bd (f_X7_owedBy p1 s4) fun r5 s6 =>
    some (r3 - r5, s6)
def f_X7_settle_14  (c45 : Int32 → zMem → Option (Int32 × zMem)) : Nat → Int32 → Int32 → zMem → Option (Int32 × zMem)
  | 0, _, _, _ => none
  | n + 1, x3, x4, s5 =>
    if (s5 47 0) ≤ x4 then
      c45 x3 s5
    else
      bd (f_X7_owedTo x4 s5) fun r6 s7 =>
      bd (f_X7_owedBy x4 s7) fun r8 s9 =>
      gd (zib x4 6) <|
      nm (zUp s9 69 (zix x4) (r6 - r8)) fun s10 =>
      nm (x4 + 1) fun x11 =>
      f_X7_settle_14 c45 n x3 x11 s10
def f_X7_settle_99  (c66 : Int32 → Int32 → Int32 → Int32 → Int32 → Int32 → zMem → Option (Int32 × zMem)) (x26 : Int32) (x27 : Int32) (x28 : Int32) (x29 : Int32) (x30 : Int32) (t31 : Int32) (s32 : zMem) : Option (Int32 × zMem) :=
  gd (zib x30 6) <|
  gd (zib x29 6) <|
  if (s32 69 (zix x30)) ≤ (s32 69 (zix x29)) then
    nm (x30 + 1) fun x33 =>
    c66 x26 x27 x28 t31 x29 x33 s32
  else
    nm (x30 + 1) fun x34 =>
    c66 x26 x27 x28 t31 x30 x34 s32
def f_X7_settle_66  (c133 : Int32 → Int32 → Int32 → Int32 → Int32 → zMem → Option (Int32 × zMem)) : Nat → Int32 → Int32 → Int32 → Int32 → Int32 → Int32 → zMem → Option (Int32 × zMem)
  | 0, _, _, _, _, _, _, _ => none
  | n + 1, x19, x20, x21, x22, x23, x24, s25 =>
    if (s25 47 0) ≤ x24 then
      c133 x19 x20 x21 x22 x23 s25
    else
      gd (zib x24 6) <|
      gd (zib x22 6) <|
      if (s25 69 (zix x22)) ≤ (s25 69 (zix x24)) then
        f_X7_settle_99 (fun x35 x36 x37 x38 x39 x40 s41 =>
          f_X7_settle_66 c133 n x35 x36 x37 x38 x39 x40 s41) x19 x20 x21 x23 x24 x22 s25
      else
        f_X7_settle_99 (fun x42 x43 x44 x45 x46 x47 s48 =>
          f_X7_settle_66 c133 n x42 x43 x44 x45 x46 x47 s48) x19 x20 x21 x23 x24 x24 s25
def f_X7_settle_198  (c52 : Int32 → Int32 → Int32 → Int32 → zMem → Option (Int32 × zMem)) (x68 : Int32) (x69 : Int32) (x70 : Int32) (x71 : Int32) (x72 : Int32) (x73 : Int32) (t74 : Int32) (s75 : zMem) : Option (Int32 × zMem) :=
  gd (zib x72 6) <|
  gd (zib x72 6) <|
  nm (zUp s75 69 (zix x72) ((s75 69 (zix x72)) + t74)) fun s76 =>
  gd (zib x73 6) <|
  gd (zib x73 6) <|
  nm (zUp s76 69 (zix x73) ((s76 69 (zix x73)) - t74)) fun s77 =>
  nm (x69 + 1) fun x78 =>
  nm (x70 + t74) fun x79 =>
  c52 x68 x78 x79 x71 s77
def f_X7_settle_155  (c52 : Int32 → Int32 → Int32 → Int32 → zMem → Option (Int32 × zMem)) (x61 : Int32) (x62 : Int32) (x63 : Int32) (x64 : Int32) (x65 : Int32) (t66 : Int32) (s67 : zMem) : Option (Int32 × zMem) :=
  if t66 = 0 then
    c52 x61 x62 x63 t66 s67
  else
    gd (zib x64 6) <|
    gd (zib x65 6) <|
    if (s67 69 (zix x65)) ≤ (-(s67 69 (zix x64))) then
      gd (zib x65 6) <|
      f_X7_settle_198 (fun x80 x81 x82 x83 s84 =>
        c52 x80 x81 x82 x83 s84) x61 x62 x63 t66 x64 x65 (s67 69 (zix x65)) s67
    else
      gd (zib x64 6) <|
      f_X7_settle_198 (fun x85 x86 x87 x88 s89 =>
        c52 x85 x86 x87 x88 s89) x61 x62 x63 t66 x64 x65 (-(s67 69 (zix x64))) s67
def f_X7_settle_154  (c52 : Int32 → Int32 → Int32 → Int32 → zMem → Option (Int32 × zMem)) (x55 : Int32) (x56 : Int32) (x57 : Int32) (x58 : Int32) (x59 : Int32) (s60 : zMem) : Option (Int32 × zMem) :=
  f_X7_settle_155 (fun x90 x91 x92 x93 s94 =>
    c52 x90 x91 x92 x93 s94) x55 x56 x57 x58 x59 0 s60
def f_X7_settle_52  (c235 : Int32 → Int32 → Int32 → zMem → Option (Int32 × zMem)) : Nat → Int32 → Int32 → Int32 → Int32 → zMem → Option (Int32 × zMem)
  | 0, _, _, _, _, _ => none
  | n + 1, x14, x15, x16, x17, s18 =>
    if x17 = 0 then
      c235 x14 x15 x16 s18
    else
      f_X7_settle_66 (fun x49 x50 x51 x52 x53 s54 =>
        gd (zib x52 6) <|
        if 0 ≤ (s54 69 (zix x52)) then
          f_X7_settle_154 (fun x95 x96 x97 x98 s99 =>
            f_X7_settle_52 c235 n x95 x96 x97 x98 s99) x49 x50 x51 x52 x53 s54
        else
          if (s54 47 0) ≤ 0 then
            f_X7_settle_154 (fun x100 x101 x102 x103 s104 =>
              f_X7_settle_52 c235 n x100 x101 x102 x103 s104) x49 x50 x51 x52 x53 s54
          else
            f_X7_settle_155 (fun x105 x106 x107 x108 s109 =>
              f_X7_settle_52 c235 n x105 x106 x107 x108 s109) x49 x50 x51 x52 x53 1 s54) zN x14 x15 x16 0 0 1 s18
def f_X7_settle  (p1 : Int32) (s0 : zMem) : Option (Int32 × zMem) :=
  bd (f_X7_in p1 0 1 s0) fun r1 s2 =>
  if r1 = 0 then
    some ((-2), s2)
  else
    f_X7_settle_14 (fun x12 s13 =>
      f_X7_settle_52 (fun x110 x111 x112 s113 =>
        if x110 = 0 then
          some (x111, s113)
        else
          some (x112, s113)) zN x12 0 0 1 s13) zN p1 0 s2
def f_X7_sourceOf_54  (c14 : Int32 → Int32 → Int32 → Int32 → zMem → Option (Int32 × zMem)) (x15 : Int32) (x16 : Int32) (x17 : Int32) (x18 : Int32) (t19 : Int32) (s20 : zMem) : Option (Int32 × zMem) :=
  if t19 = 0 then
    nm (x16 ||| 0) fun x21 =>
    nm (x18 + 1) fun x22 =>
    c14 x15 x21 x17 x22 s20
  else
    gd (zib x18 10) <|
    nm (x16 ||| (1 <<< ((s20 51 (zix x18)) &&& 31))) fun x23 =>
    nm (x18 + 1) fun x24 =>
    c14 x15 x23 x17 x24 s20
def f_X7_sourceOf_49  (c14 : Int32 → Int32 → Int32 → Int32 → zMem → Option (Int32 × zMem)) (x10 : Int32) (x11 : Int32) (x12 : Int32) (x13 : Int32) (s14 : zMem) : Option (Int32 × zMem) :=
  f_X7_sourceOf_54 (fun x25 x26 x27 x28 s29 =>
    c14 x25 x26 x27 x28 s29) x10 x11 x12 x13 1 s14
def f_X7_sourceOf_14  (c83 : Int32 → Int32 → Int32 → zMem → Option (Int32 × zMem)) : Nat → Int32 → Int32 → Int32 → Int32 → zMem → Option (Int32 × zMem)
  | 0, _, _, _, _, _ => none
  | n + 1, x5, x6, x7, x8, s9 =>
    if (s9 47 8) ≤ x8 then
      c83 x5 x6 x7 s9
    else
      gd (zib x8 10) <|
      if (s9 52 (zix x8)) = x5 then
        f_X7_sourceOf_49 (fun x30 x31 x32 x33 s34 =>
          f_X7_sourceOf_14 c83 n x30 x31 x32 x33 s34) x5 x6 x7 x8 s9
      else
        gd (zib x8 10) <|
        if ((x6 >>> ((s9 52 (zix x8)) &&& 31)) &&& 1) = 1 then
          f_X7_sourceOf_49 (fun x40 x41 x42 x43 s44 =>
            f_X7_sourceOf_14 c83 n x40 x41 x42 x43 s44) x5 x6 x7 x8 s9
        else
          f_X7_sourceOf_54 (fun x35 x36 x37 x38 s39 =>
            f_X7_sourceOf_14 c83 n x35 x36 x37 x38 s39) x5 x6 x7 x8 0 s9
def f_X7_sourceOf_4   : Nat → Int32 → Int32 → Int32 → zMem → Option (Int32 × zMem)
  | 0, _, _, _, _ => none
  | n + 1, x1, x2, x3, s4 =>
    if x3 = x2 then
      some (x2, s4)
    else
      f_X7_sourceOf_14 (fun x45 x46 x47 s48 =>
        f_X7_sourceOf_4 n x45 x46 x47 s48) zN x1 x2 x2 0 s4
def f_X7_sourceOf  (p1 : Int32) (s0 : zMem) : Option (Int32 × zMem) :=
  f_X7_sourceOf_4 zN p1 0 (-1) s0
def f_X7_source  (p1 : Int32) (s0 : zMem) : Option (Int32 × zMem) :=
  bd (f_X7_isHut p1 s0) fun r1 s2 =>
  if r1 = 0 then
    some ((-5), s2)
  else
    bd (f_X7_sourceOf p1 s2) fun r3 s4 =>
    some (r3, s4)
def f_X7_rings_16   : Nat → Int32 → Int32 → Int32 → zMem → Option (Int32 × zMem)
  | 0, _, _, _, _ => none
  | n + 1, x3, x4, x5, s6 =>
    if (s6 47 0) ≤ x5 then
      some (x4, s6)
    else
      bd (f_X7_sourceOf x5 s6) fun r7 s8 =>
      if x3 = 0 then
        if ((r7 >>> (x5 &&& 31)) &&& 1) = 1 then
          nm (x4 ||| (1 <<< (x5 &&& 31))) fun x19 =>
          nm (x5 + 1) fun x20 =>
          f_X7_rings_16 n x3 x19 x20 s8
        else
          nm (x4 ||| 0) fun x17 =>
          nm (x5 + 1) fun x18 =>
          f_X7_rings_16 n x3 x17 x18 s8
      else
        if r7 = 0 then
          bd (f_X7_lentBy x5 s8) fun r11 s12 =>
          if r11 ≤ 0 then
            nm (x4 ||| 0) fun x13 =>
            nm (x5 + 1) fun x14 =>
            f_X7_rings_16 n x3 x13 x14 s12
          else
            nm (x4 ||| (1 <<< (x5 &&& 31))) fun x15 =>
            nm (x5 + 1) fun x16 =>
            f_X7_rings_16 n x3 x15 x16 s12
        else
          nm (x4 ||| 0) fun x9 =>
          nm (x5 + 1) fun x10 =>
          f_X7_rings_16 n x3 x9 x10 s8
def f_X7_rings  (p1 : Int32) (s0 : zMem) : Option (Int32 × zMem) :=
  bd (f_X7_in p1 0 1 s0) fun r1 s2 =>
  if r1 = 0 then
    some ((-2), s2)
  else
    f_X7_rings_16 zN p1 0 0 s2
def f_X7_ask_48  (c156 : Int32 → Int32 → Int32 → zMem → Option (Int32 × zMem)) : Nat → Int32 → Int32 → Int32 → Int32 → Int32 → Int32 → zMem → Option (Int32 × zMem)
  | 0, _, _, _, _, _, _, _ => none
  | n + 1, x7, x8, x9, x10, x11, x12, s13 =>
    if (s13 47 0) ≤ x12 then
      c156 x9 x10 x11 s13
    else
      if x12 = x7 then
        nm (x12 + 1) fun x14 =>
        f_X7_ask_48 c156 n x7 x8 x9 x10 x11 x14 s13
      else
        if 10 ≤ (s13 47 8) then
          nm (x12 + 1) fun x15 =>
          f_X7_ask_48 c156 n x7 x8 x9 x10 x11 x15 s13
        else
          bd (f_X7_mayLend x12 (x8 / 100) s13) fun r16 s17 =>
          if r16 = 0 then
            nm (x12 + 1) fun x18 =>
            f_X7_ask_48 c156 n x7 x8 x9 x10 x11 x18 s17
          else
            bd (f_X7_keeps s17) fun _ s20 =>
            bd (f_X7_lends x12 x7 x8 s20) fun _ s22 =>
            bd (f_X7_goes ((zrem x8 100) + 1) s22) fun r23 s24 =>
            bd (f_X7_heatAll s24) fun r25 s26 =>
            bd (f_X7_lays s26) fun _ s28 =>
            if r25 ≤ x11 then
              if r25 ≤ x11 then
                nm (x12 + 1) fun x29 =>
                f_X7_ask_48 c156 n x7 x8 x9 x10 x11 x29 s28
              else
                nm (x12 + 1) fun x30 =>
                f_X7_ask_48 c156 n x7 x8 x9 x10 r25 x30 s28
            else
              if r25 ≤ x11 then
                nm (x12 + 1) fun x31 =>
                f_X7_ask_48 c156 n x7 x8 x9 x12 x11 x31 s28
              else
                nm (x12 + 1) fun x32 =>
                f_X7_ask_48 c156 n x7 x8 x9 x12 r25 x32 s28
def f_X7_ask  (p1 : Int32) (p2 : Int32) (p3 : Int32) (s0 : zMem) : Option (Int32 × zMem) :=
  bd (f_X7_isHut p1 s0) fun r1 s2 =>
  if r1 = 0 then
    some ((-5), s2)
  else
    bd (f_X7_areCoalNights p2 s2) fun r3 s4 =>
    if r3 = 0 then
      some ((-7), s4)
    else
      if 39 < (zrem p2 100) then
        some ((-7), s4)
      else
        bd (f_X7_in p3 0 1 s4) fun r5 s6 =>
        if r5 = 0 then
          some ((-7), s6)
        else
          f_X7_ask_48 (fun x33 x34 x35 s36 =>
            if x33 = 0 then
              some (x34, s36)
            else
              some (x35, s36)) zN p1 p2 p3 (-1) (-1) 0 s6
def f_X7_needs_26   : Nat → Int32 → Int32 → Int32 → zMem → Option (Int32 × zMem)
  | 0, _, _, _, _ => none
  | n + 1, x5, x6, x7, s8 =>
    if 99 < x7 then
      some ((-1), s8)
    else
      bd (f_X7_keeps s8) fun _ s10 =>
      gd (zib ((3 * x5) + 1) 18) <|
      nm (zUp s10 50 (zix ((3 * x5) + 1)) x7) fun s11 =>
      bd (f_X7_goes x6 s11) fun r12 s13 =>
      bd (f_X7_lays s13) fun _ s15 =>
      if ((r12 >>> (x5 &&& 31)) &&& 1) = 0 then
        some (x7, s15)
      else
        nm (x7 + 1) fun x16 =>
        f_X7_needs_26 n x5 x6 x16 s15
def f_X7_needs  (p1 : Int32) (p2 : Int32) (s0 : zMem) : Option (Int32 × zMem) :=
  bd (f_X7_isHut p1 s0) fun r1 s2 =>
  if r1 = 0 then
    some ((-5), s2)
  else
    bd (f_X7_in p2 0 40 s2) fun r3 s4 =>
    if r3 = 0 then
      some ((-7), s4)
    else
      f_X7_needs_26 zN p1 p2 0 s4
def f_X7_failsBut  (p1 : Int32) (p2 : Int32) (s0 : zMem) : Option (Int32 × zMem) :=
  bd (f_X7_keeps s0) fun _ s2 =>
  if p1 = (-1) then
    bd (f_X7_goes p2 s2) fun r3 s4 =>
    bd (f_X7_ones r3 s4) fun r5 s6 =>
    bd (f_X7_lays s6) fun _ s8 =>
    some (r5, s8)
  else
    bd (f_X7_drops p1 s2) fun _ s10 =>
    bd (f_X7_goes p2 s10) fun r11 s12 =>
    bd (f_X7_ones r11 s12) fun r13 s14 =>
    bd (f_X7_lays s14) fun _ s16 =>
    some (r13, s16)
def f_X7_mercy_35  (c89 : Int32 → Int32 → Int32 → zMem → Option (Int32 × zMem)) : Nat → Int32 → Int32 → Int32 → Int32 → Int32 → zMem → Option (Int32 × zMem)
  | 0, _, _, _, _, _, _ => none
  | n + 1, x7, x8, x9, x10, x11, s12 =>
    if (s12 47 8) ≤ x11 then
      c89 x8 x9 x10 s12
    else
      bd (f_X7_failsBut x11 x7 s12) fun r13 s14 =>
      if x10 ≤ r13 then
        if x10 ≤ r13 then
          nm (x11 + 1) fun x15 =>
          f_X7_mercy_35 c89 n x7 x8 x9 x10 x15 s14
        else
          nm (x11 + 1) fun x16 =>
          f_X7_mercy_35 c89 n x7 x8 x9 r13 x16 s14
      else
        if x10 ≤ r13 then
          nm (x11 + 1) fun x17 =>
          f_X7_mercy_35 c89 n x7 x8 x11 x10 x17 s14
        else
          nm (x11 + 1) fun x18 =>
          f_X7_mercy_35 c89 n x7 x8 x11 r13 x18 s14
def f_X7_mercy  (p1 : Int32) (p2 : Int32) (s0 : zMem) : Option (Int32 × zMem) :=
  bd (f_X7_in p1 0 40 s0) fun r1 s2 =>
  if r1 = 0 then
    some ((-2), s2)
  else
    bd (f_X7_in p2 0 1 s2) fun r3 s4 =>
    if r3 = 0 then
      some ((-2), s4)
    else
      bd (f_X7_failsBut (-1) p1 s4) fun r5 s6 =>
      f_X7_mercy_35 (fun x19 x20 x21 s22 =>
        if x19 = 0 then
          some (x20, s22)
        else
          some (x21, s22)) zN p1 p2 (-1) r5 0 s6
def f_X7_worst_108  (c30 : Int32 → Int32 → Int32 → Int32 → Int32 → zMem → Option (Int32 × zMem)) (x29 : Int32) (x30 : Int32) (x31 : Int32) (x32 : Int32) (x33 : Int32) (x34 : Int32) (t35 : Int32) (s36 : zMem) : Option (Int32 × zMem) :=
  if t35 = 0 then
    if t35 = 0 then
      nm (x33 + 1) fun x37 =>
      c30 x29 x30 x31 x32 x37 s36
    else
      nm (x33 + 1) fun x38 =>
      c30 x29 x30 x31 x34 x38 s36
  else
    if t35 = 0 then
      nm (x33 + 1) fun x39 =>
      c30 x29 x30 x33 x32 x39 s36
    else
      nm (x33 + 1) fun x40 =>
      c30 x29 x30 x33 x34 x40 s36
def f_X7_worst_103  (c30 : Int32 → Int32 → Int32 → Int32 → Int32 → zMem → Option (Int32 × zMem)) (x22 : Int32) (x23 : Int32) (x24 : Int32) (x25 : Int32) (x26 : Int32) (x27 : Int32) (s28 : zMem) : Option (Int32 × zMem) :=
  f_X7_worst_108 (fun x41 x42 x43 x44 x45 s46 =>
    c30 x41 x42 x43 x44 x45 s46) x22 x23 x24 x25 x26 x27 1 s28
def f_X7_worst_30  (c142 : Int32 → Int32 → Int32 → zMem → Option (Int32 × zMem)) : Nat → Int32 → Int32 → Int32 → Int32 → Int32 → zMem → Option (Int32 × zMem)
  | 0, _, _, _, _, _, _ => none
  | n + 1, x5, x6, x7, x8, x9, s10 =>
    if (s10 47 0) ≤ x9 then
      c142 x6 x7 x8 s10
    else
      bd (f_X7_keeps s10) fun _ s12 =>
      gd (zib (3 * x9) 18) <|
      nm (zUp s12 50 (zix (3 * x9)) 0) fun s13 =>
      gd (zib ((3 * x9) + 1) 18) <|
      nm (zUp s13 50 (zix ((3 * x9) + 1)) 0) fun s14 =>
      bd (f_X7_goes x5 s14) fun r15 s16 =>
      bd (f_X7_heatAll s16) fun r17 s18 =>
      gd (zib (3 * x9) 18) <|
      nm (r17 - (s18 50 (zix (3 * x9)))) fun x19 =>
      bd (f_X7_lays s18) fun _ s21 =>
      if x7 = (-1) then
        f_X7_worst_103 (fun x47 x48 x49 x50 x51 s52 =>
          f_X7_worst_30 c142 n x47 x48 x49 x50 x51 s52) x5 x6 x7 x8 x9 x19 s21
      else
        if x8 ≤ x19 then
          f_X7_worst_108 (fun x53 x54 x55 x56 x57 s58 =>
            f_X7_worst_30 c142 n x53 x54 x55 x56 x57 s58) x5 x6 x7 x8 x9 x19 0 s21
        else
          f_X7_worst_103 (fun x59 x60 x61 x62 x63 s64 =>
            f_X7_worst_30 c142 n x59 x60 x61 x62 x63 s64) x5 x6 x7 x8 x9 x19 s21
def f_X7_worst  (p1 : Int32) (p2 : Int32) (s0 : zMem) : Option (Int32 × zMem) :=
  bd (f_X7_in p1 0 40 s0) fun r1 s2 =>
  if r1 = 0 then
    some ((-2), s2)
  else
    bd (f_X7_in p2 0 1 s2) fun r3 s4 =>
    if r3 = 0 then
      some ((-2), s4)
    else
      f_X7_worst_30 (fun x65 x66 x67 s68 =>
        if x65 = 0 then
          some (x66, s68)
        else
          some (x67, s68)) zN p1 p2 (-1) (-1) 0 s4
def f_X7_sheetWrong  (p1 : Int32) (s0 : zMem) : Option (Int32 × zMem) :=
  bd (f_X7_in p1 0 3 s0) fun r1 s2 =>
  if r1 = 0 then
    some ((-2), s2)
  else
    gd (zib p1 4) <|
    if (s2 60 (zix p1)) = (-1) then
      some ((-11), s2)
    else
      gd (zib p1 4) <|
      if (s2 61 (zix p1)) ≤ 20 then
        some (0, s2)
      else
        some ((-2), s2)
def f_X7_toldWrong  (p1 : Int32) (p2 : Int32) (s0 : zMem) : Option (Int32 × zMem) :=
  bd (f_X7_sheetWrong p1 s0) fun r1 s2 =>
  if r1 = 0 then
    bd (f_X7_isHut p2 s2) fun r3 s4 =>
    if r3 = 0 then
      some ((-5), s4)
    else
      some (0, s4)
  else
    some (r1, s2)
def f_X7_unlike_9  (c66 : Int32 → zMem → Option (Int32 × zMem)) : Nat → Int32 → Int32 → Int32 → Int32 → zMem → Option (Int32 × zMem)
  | 0, _, _, _, _, _ => none
  | n + 1, x3, x4, x5, x6, s7 =>
    gd (zib x3 4) <|
    if (s7 61 (zix x3)) ≤ x6 then
      c66 x5 s7
    else
      if x5 = (-1) then
        bd (f_X7_nightOf s7) fun r8 s9 =>
        gd (zib ((40 * x3) + x6) 160) <|
        gd (zib (3 * x4) 18) <|
        if (s9 62 (zix ((40 * x3) + x6))) = (s9 50 (zix (3 * x4))) then
          nm (x6 + 1) fun x11 =>
          f_X7_unlike_9 c66 n x3 x4 (-1) x11 s9
        else
          nm (x6 + 1) fun x10 =>
          f_X7_unlike_9 c66 n x3 x4 x6 x10 s9
      else
        c66 x5 s7
def f_X7_unlike  (p1 : Int32) (p2 : Int32) (s0 : zMem) : Option (Int32 × zMem) :=
  bd (f_X7_keeps s0) fun _ s2 =>
  f_X7_unlike_9 (fun x12 s13 =>
    bd (f_X7_lays s13) fun _ s15 =>
    some (x12, s15)) zN p1 p2 (-1) 0 s2
def f_X7_judge  (p1 : Int32) (p2 : Int32) (s0 : zMem) : Option (Int32 × zMem) :=
  bd (f_X7_toldWrong p1 p2 s0) fun r1 s2 =>
  if r1 = 0 then
    bd (f_X7_unlike p1 p2 s2) fun r3 s4 =>
    some (r3, s4)
  else
    some (r1, s2)
def f_X7_kinds_100  (c50 : Int32 → Int32 → Int32 → Int32 → Int32 → Int32 → Int32 → zMem → Option (Int32 × zMem)) (x36 : Int32) (x37 : Int32) (x38 : Int32) (x39 : Int32) (x40 : Int32) (x41 : Int32) (x42 : Int32) (t43 : Int32) (t44 : Int32) (s45 : zMem) : Option (Int32 × zMem) :=
  gd (zib t44 6) <|
  nm (zUp s45 49 (zix t44) t43) fun s46 =>
  bd (f_X7_unlike x36 x37 s46) fun r47 s48 =>
  if r47 = (-1) then
    nm (x41 ||| (1 <<< (x42 &&& 31))) fun x51 =>
    nm (x42 + 1) fun x52 =>
    c50 x36 x37 x38 x39 x40 x51 x52 s48
  else
    nm (x41 ||| 0) fun x49 =>
    nm (x42 + 1) fun x50 =>
    c50 x36 x37 x38 x39 x40 x49 x50 s48
def f_X7_kinds_82  (c50 : Int32 → Int32 → Int32 → Int32 → Int32 → Int32 → Int32 → zMem → Option (Int32 × zMem)) (x25 : Int32) (x26 : Int32) (x27 : Int32) (x28 : Int32) (x29 : Int32) (x30 : Int32) (x31 : Int32) (t32 : Int32) (t33 : Int32) (s34 : zMem) : Option (Int32 × zMem) :=
  gd (zib t33 6) <|
  nm (zUp s34 48 (zix t33) t32) fun s35 =>
  if x27 = 1 then
    f_X7_kinds_100 (fun x61 x62 x63 x64 x65 x66 x67 s68 =>
      c50 x61 x62 x63 x64 x65 x66 x67 s68) x25 x26 x27 x28 x29 x30 x31 x31 x26 s35
  else
    f_X7_kinds_100 (fun x53 x54 x55 x56 x57 x58 x59 s60 =>
      c50 x53 x54 x55 x56 x57 x58 x59 s60) x25 x26 x27 x28 x29 x30 x31 x29 x26 s35
def f_X7_kinds_63  (c130 : Int32 → Int32 → Int32 → Int32 → zMem → Option (Int32 × zMem)) (c50 : Int32 → Int32 → Int32 → Int32 → Int32 → Int32 → Int32 → zMem → Option (Int32 × zMem)) (x15 : Int32) (x16 : Int32) (x17 : Int32) (x18 : Int32) (x19 : Int32) (x20 : Int32) (x21 : Int32) (t22 : Int32) (t23 : Int32) (s24 : zMem) : Option (Int32 × zMem) :=
  if t22 ≤ t23 then
    c130 x16 x18 x19 x20 s24
  else
    if x17 = 0 then
      f_X7_kinds_82 (fun x77 x78 x79 x80 x81 x82 x83 s84 =>
        c50 x77 x78 x79 x80 x81 x82 x83 s84) x15 x16 x17 x18 x19 x20 x21 x21 x16 s24
    else
      f_X7_kinds_82 (fun x69 x70 x71 x72 x73 x74 x75 s76 =>
        c50 x69 x70 x71 x72 x73 x74 x75 s76) x15 x16 x17 x18 x19 x20 x21 x18 x16 s24
def f_X7_kinds_50  (c130 : Int32 → Int32 → Int32 → Int32 → zMem → Option (Int32 × zMem)) : Nat → Int32 → Int32 → Int32 → Int32 → Int32 → Int32 → Int32 → zMem → Option (Int32 × zMem)
  | 0, _, _, _, _, _, _, _, _ => none
  | n + 1, x7, x8, x9, x10, x11, x12, x13, s14 =>
    if x9 = 0 then
      f_X7_kinds_63 (fun x98 x99 x100 x101 s102 =>
        c130 x98 x99 x100 x101 s102) (fun x103 x104 x105 x106 x107 x108 x109 s110 =>
        f_X7_kinds_50 c130 n x103 x104 x105 x106 x107 x108 x109 s110) x7 x8 x9 x10 x11 x12 x13 6 x13 s14
    else
      f_X7_kinds_63 (fun x85 x86 x87 x88 s89 =>
        c130 x85 x86 x87 x88 s89) (fun x90 x91 x92 x93 x94 x95 x96 s97 =>
        f_X7_kinds_50 c130 n x90 x91 x92 x93 x94 x95 x96 s97) x7 x8 x9 x10 x11 x12 x13 10 x13 s14
def f_X7_kinds  (p1 : Int32) (p2 : Int32) (p3 : Int32) (s0 : zMem) : Option (Int32 × zMem) :=
  bd (f_X7_toldWrong p1 p2 s0) fun r1 s2 =>
  if r1 = 0 then
    bd (f_X7_in p3 0 1 s2) fun r3 s4 =>
    if r3 = 0 then
      some ((-7), s4)
    else
      gd (zib p2 6) <|
      nm (s4 48 (zix p2)) fun x5 =>
      gd (zib p2 6) <|
      nm (s4 49 (zix p2)) fun x6 =>
      f_X7_kinds_50 (fun x111 x112 x113 x114 s115 =>
        gd (zib x111 6) <|
        nm (zUp s115 48 (zix x111) x112) fun s116 =>
        gd (zib x111 6) <|
        nm (zUp s116 49 (zix x111) x113) fun s117 =>
        some (x114, s117)) zN p1 p2 p3 x5 x6 0 0 s4
  else
    some (r1, s2)
def f_X7_states_103  (c59 : Int32 → Int32 → Int32 → Int32 → Int32 → Int32 → Int32 → Int32 → zMem → Option (Int32 × zMem)) (x31 : Int32) (x32 : Int32) (x33 : Int32) (x34 : Int32) (x35 : Int32) (x36 : Int32) (x37 : Int32) (x38 : Int32) (t39 : Int32) (s40 : zMem) : Option (Int32 × zMem) :=
  if t39 = 0 then
    nm (x36 + 0) fun x41 =>
    if t39 = 0 then
      nm (x38 + 1) fun x42 =>
      c59 x31 x32 x33 x34 x35 x41 x37 x42 s40
    else
      if x37 = (-1) then
        nm (x38 + 1) fun x44 =>
        c59 x31 x32 x33 x34 x35 x41 x38 x44 s40
      else
        nm (x38 + 1) fun x43 =>
        c59 x31 x32 x33 x34 x35 x41 x37 x43 s40
  else
    nm (x36 + 1) fun x45 =>
    if t39 = 0 then
      nm (x38 + 1) fun x46 =>
      c59 x31 x32 x33 x34 x35 x45 x37 x46 s40
    else
      if x37 = (-1) then
        nm (x38 + 1) fun x48 =>
        c59 x31 x32 x33 x34 x35 x45 x38 x48 s40
      else
        nm (x38 + 1) fun x47 =>
        c59 x31 x32 x33 x34 x35 x45 x37 x47 s40
def f_X7_states_73  (c146 : Int32 → Int32 → Int32 → Int32 → Int32 → Int32 → zMem → Option (Int32 × zMem)) (c59 : Int32 → Int32 → Int32 → Int32 → Int32 → Int32 → Int32 → Int32 → zMem → Option (Int32 × zMem)) (x17 : Int32) (x18 : Int32) (x19 : Int32) (x20 : Int32) (x21 : Int32) (x22 : Int32) (x23 : Int32) (x24 : Int32) (t25 : Int32) (t26 : Int32) (s27 : zMem) : Option (Int32 × zMem) :=
  if t25 < t26 then
    c146 x18 x19 x20 x21 x22 x23 s27
  else
    gd (zib ((3 * x18) + x19) 18) <|
    nm (zUp s27 50 (zix ((3 * x18) + x19)) x24) fun s28 =>
    bd (f_X7_unlike x17 x18 s28) fun r29 s30 =>
    if r29 = (-1) then
      f_X7_states_103 (fun x58 x59 x60 x61 x62 x63 x64 x65 s66 =>
        c59 x58 x59 x60 x61 x62 x63 x64 x65 s66) x17 x18 x19 x20 x21 x22 x23 x24 1 s30
    else
      f_X7_states_103 (fun x49 x50 x51 x52 x53 x54 x55 x56 s57 =>
        c59 x49 x50 x51 x52 x53 x54 x55 x56 s57) x17 x18 x19 x20 x21 x22 x23 x24 0 s30
def f_X7_states_59  (c146 : Int32 → Int32 → Int32 → Int32 → Int32 → Int32 → zMem → Option (Int32 × zMem)) : Nat → Int32 → Int32 → Int32 → Int32 → Int32 → Int32 → Int32 → Int32 → zMem → Option (Int32 × zMem)
  | 0, _, _, _, _, _, _, _, _, _ => none
  | n + 1, x8, x9, x10, x11, x12, x13, x14, x15, s16 =>
    if x10 = 0 then
      f_X7_states_73 (fun x83 x84 x85 x86 x87 x88 s89 =>
        c146 x83 x84 x85 x86 x87 x88 s89) (fun x90 x91 x92 x93 x94 x95 x96 x97 s98 =>
        f_X7_states_59 c146 n x90 x91 x92 x93 x94 x95 x96 x97 s98) x8 x9 x10 x11 x12 x13 x14 x15 299 x15 s16
    else
      f_X7_states_73 (fun x67 x68 x69 x70 x71 x72 s73 =>
        c146 x67 x68 x69 x70 x71 x72 s73) (fun x74 x75 x76 x77 x78 x79 x80 x81 s82 =>
        f_X7_states_59 c146 n x74 x75 x76 x77 x78 x79 x80 x81 s82) x8 x9 x10 x11 x12 x13 x14 x15 99 x15 s16
def f_X7_states  (p1 : Int32) (p2 : Int32) (p3 : Int32) (p4 : Int32) (s0 : zMem) : Option (Int32 × zMem) :=
  bd (f_X7_toldWrong p1 p2 s0) fun r1 s2 =>
  if r1 = 0 then
    bd (f_X7_in p3 0 2 s2) fun r3 s4 =>
    if r3 = 0 then
      some ((-7), s4)
    else
      bd (f_X7_in p4 0 1 s4) fun r5 s6 =>
      if r5 = 0 then
        some ((-7), s6)
      else
        gd (zib ((3 * p2) + p3) 18) <|
        nm (s6 50 (zix ((3 * p2) + p3))) fun x7 =>
        f_X7_states_59 (fun x99 x100 x101 x102 x103 x104 s105 =>
          gd (zib ((3 * x99) + x100) 18) <|
          nm (zUp s105 50 (zix ((3 * x99) + x100)) x102) fun s106 =>
          if x101 = 0 then
            some (x103, s106)
          else
            some (x104, s106)) zN p1 p2 p3 p4 x7 0 (-1) 0 s6
  else
    some (r1, s2)
def f_X7_whose_17   : Nat → Int32 → Int32 → Int32 → zMem → Option (Int32 × zMem)
  | 0, _, _, _, _ => none
  | n + 1, x3, x4, x5, s6 =>
    if (s6 47 0) ≤ x5 then
      some (x4, s6)
    else
      bd (f_X7_unlike x3 x5 s6) fun r7 s8 =>
      if r7 = (-1) then
        nm (x4 ||| (1 <<< (x5 &&& 31))) fun x11 =>
        nm (x5 + 1) fun x12 =>
        f_X7_whose_17 n x3 x11 x12 s8
      else
        nm (x4 ||| 0) fun x9 =>
        nm (x5 + 1) fun x10 =>
        f_X7_whose_17 n x3 x9 x10 s8
def f_X7_whose  (p1 : Int32) (s0 : zMem) : Option (Int32 × zMem) :=
  bd (f_X7_sheetWrong p1 s0) fun r1 s2 =>
  if r1 = 0 then
    f_X7_whose_17 zN p1 0 0 s2
  else
    some (r1, s2)
def f_X7_laws_25  (c69 : Int32 → Int32 → zMem → Option (Int32 × zMem)) : Nat → Int32 → Int32 → Int32 → Int32 → Int32 → zMem → Option (Int32 × zMem)
  | 0, _, _, _, _, _, _ => none
  | n + 1, x4, x5, x6, x7, x8, s9 =>
    if (s9 47 14) ≤ x8 then
      c69 x6 x7 s9
    else
      nm (zUp s9 47 15 x8) fun s10 =>
      bd (f_X7_unlike x4 x5 s10) fun r11 s12 =>
      if r11 = (-1) then
        nm (x7 ||| (1 <<< (x8 &&& 31))) fun x15 =>
        nm (x8 + 1) fun x16 =>
        f_X7_laws_25 c69 n x4 x5 x6 x15 x16 s12
      else
        nm (x7 ||| 0) fun x13 =>
        nm (x8 + 1) fun x14 =>
        f_X7_laws_25 c69 n x4 x5 x6 x13 x14 s12
def f_X7_laws  (p1 : Int32) (p2 : Int32) (s0 : zMem) : Option (Int32 × zMem) :=
  bd (f_X7_toldWrong p1 p2 s0) fun r1 s2 =>
  if r1 = 0 then
    nm (s2 47 15) fun x3 =>
    f_X7_laws_25 (fun x17 x18 s19 =>
      nm (zUp s19 47 15 x17) fun s20 =>
      some (x18, s20)) zN p1 p2 x3 0 0 s2
  else
    some (r1, s2)
def f_X7_film_57  (c114 : Int32 → zMem → Option (Int32 × zMem)) : Nat → Int32 → Int32 → Int32 → Int32 → zMem → Option (Int32 × zMem)
  | 0, _, _, _, _, _ => none
  | n + 1, x11, x12, x13, x14, s15 =>
    if 40 ≤ x14 then
      c114 x13 s15
    else
      gd (zib ((40 * x11) + x14) 160) <|
      nm (zUp s15 62 (zix ((40 * x11) + x14)) 0) fun s16 =>
      if x13 ≤ x14 then
        nm (x14 + 1) fun x17 =>
        f_X7_film_57 c114 n x11 x12 x13 x17 s16
      else
        bd (f_X7_nightOf s16) fun r18 s19 =>
        gd (zib (3 * x12) 18) <|
        gd (zib ((40 * x11) + x14) 160) <|
        nm (zUp s19 62 (zix ((40 * x11) + x14)) (s19 50 (zix (3 * x12)))) fun s20 =>
        nm (x14 + 1) fun x21 =>
        f_X7_film_57 c114 n x11 x12 x13 x21 s20
def f_X7_film  (p1 : Int32) (p2 : Int32) (p3 : Int32) (s0 : zMem) : Option (Int32 × zMem) :=
  bd (f_X7_in p1 0 3 s0) fun r1 s2 =>
  if r1 = 0 then
    some ((-2), s2)
  else
    bd (f_X7_isHut p2 s2) fun r3 s4 =>
    if r3 = 0 then
      some ((-5), s4)
    else
      bd (f_X7_in p3 0 20 s4) fun r5 s6 =>
      if r5 = 0 then
        some ((-7), s6)
      else
        gd (zib p1 4) <|
        nm (zUp s6 60 (zix p1) 1) fun s7 =>
        gd (zib p1 4) <|
        nm (zUp s7 61 (zix p1) p3) fun s8 =>
        bd (f_X7_keeps s8) fun _ s10 =>
        f_X7_film_57 (fun x22 s23 =>
          bd (f_X7_lays s23) fun _ s25 =>
          some (x22, s25)) zN p1 p2 p3 0 s10
def f_X7_snows_15  (c105 : Int32 → zMem → Option (Int32 × zMem)) : Nat → Int32 → Int64 → Int32 → Int32 → zMem → Option (Int32 × zMem)
  | 0, _, _, _, _, _ => none
  | n + 1, x4, x5, x6, x7, s8 =>
    if 5 ≤ x7 then
      c105 x6 s8
    else
      if (s8 47 0) ≤ 0 then
        c105 x6 s8
      else
        nm (zremL (x5 * 48271) 2147483647) fun x9 =>
        gd (decide (¬ (s8 47 0).toInt64 = 0)) <|
        bd (f_X7_within ((zremL x9 ((s8 47 0).toInt64)).toInt32) 0 5 s8) fun r10 s11 =>
        gd (zib (3 * r10) 18) <|
        if x4 ≤ (s11 50 (zix (3 * r10))) then
          gd (zib (3 * r10) 18) <|
          gd (zib (3 * r10) 18) <|
          nm (zUp s11 50 (zix (3 * r10)) ((s11 50 (zix (3 * r10))) - x4)) fun s12 =>
          bd (f_X7_nightOf s12) fun r13 s14 =>
          nm (x6 ||| r13) fun x15 =>
          nm (x7 + 1) fun x16 =>
          f_X7_snows_15 c105 n x4 x9 x15 x16 s14
        else
          gd (zib (3 * r10) 18) <|
          nm (zUp s11 50 (zix (3 * r10)) 0) fun s17 =>
          bd (f_X7_nightOf s17) fun r18 s19 =>
          nm (x6 ||| r18) fun x20 =>
          nm (x7 + 1) fun x21 =>
          f_X7_snows_15 c105 n x4 x9 x20 x21 s19
def f_X7_snows  (p1 : Int32) (p2 : Int32) (s0 : zMem) : Option (Int32 × zMem) :=
  nm (p1.toInt64 + 1) fun x1 =>
  bd (f_X7_keeps s0) fun _ s3 =>
  f_X7_snows_15 (fun x22 s23 =>
    bd (f_X7_heatAll s23) fun r24 s25 =>
    nm (zUp s25 47 36 r24) fun s26 =>
    bd (f_X7_lays s26) fun _ s28 =>
    some (x22, s28)) zN p2 x1 0 0 s3
def f_X7_drawn  (p1 : Int32) (p2 : Int32) (p3 : Int32) (s0 : zMem) : Option (Int32 × zMem) :=
  bd (f_X7_in p1 0 99999 s0) fun r1 s2 =>
  if r1 = 0 then
    some ((-2), s2)
  else
    bd (f_X7_in p2 0 999 s2) fun r3 s4 =>
    if r3 = 0 then
      some ((-2), s4)
    else
      bd (f_X7_in p3 0 1 s4) fun r5 s6 =>
      if r5 = 0 then
        some ((-2), s6)
      else
        bd (f_X7_snows p1 p2 s6) fun r7 s8 =>
        if p3 = 0 then
          some (r7, s8)
        else
          some (s8 47 36, s8)
def f_X7_lowest_16  (c41 : Int64 → Int64 → Int32 → Int64 → zMem → Option (Int64 × zMem)) : Nat → Int64 → Int64 → Int32 → Int64 → Int64 → zMem → Option (Int64 × zMem)
  | 0, _, _, _, _, _, _ => none
  | n + 1, x1, x2, x3, x4, x5, s6 =>
    if (lg_cmp x5 0) = 0 then
      c41 x1 x2 x3 x4 s6
    else
      gd (decide (¬ x5 = 0)) <|
      nm (zremL x4 x5) fun x7 =>
      f_X7_lowest_16 c41 n x1 x2 x3 x5 x7 s6
def f_X7_lowest  (p1 : Int64) (p2 : Int64) (p3 : Int32) (s0 : zMem) : Option (Int64 × zMem) :=
  if (lg_cmp p1 0) = 0 then
    some (p3.toInt64, s0)
  else
    f_X7_lowest_16 (fun x8 x9 x10 x11 s12 =>
      if x10 = 0 then
        gd (decide (¬ x11 = 0)) <|
        some (x8 / x11, s12)
      else
        gd (decide (¬ x11 = 0)) <|
        some (x9 / x11, s12)) zN p1 p2 p3 p1 p2 s0
def f_X7_odds_75  (c114 : Int32 → Int32 → Int64 → zMem → Option (Int64 × zMem)) : Nat → Int32 → Int32 → Int32 → Int32 → Int32 → Int64 → Int32 → zMem → Option (Int64 × zMem)
  | 0, _, _, _, _, _, _, _, _ => none
  | n + 1, x20, x21, x22, x23, x24, x25, x26, s27 =>
    if x21 ≤ x26 then
      c114 x21 x24 x25 s27
    else
      bd (f_X7_snows (x20 + x26) x22 s27) fun r28 s29 =>
      bd (f_X7_ones r28 s29) fun r30 s31 =>
      if r30 < x23 then
        nm (x25 + 0) fun x32 =>
        nm (x26 + 1) fun x33 =>
        f_X7_odds_75 c114 n x20 x21 x22 x23 x24 x32 x33 s31
      else
        nm (x25 + 1) fun x34 =>
        nm (x26 + 1) fun x35 =>
        f_X7_odds_75 c114 n x20 x21 x22 x23 x24 x34 x35 s31
def f_X7_odds_37   (x9 : Int32) (x10 : Int32) (x11 : Int32) (x12 : Int32) (x13 : Int32) (t14 : Int32) (s15 : zMem) : Option (Int64 × zMem) :=
  if t14 = 0 then
    some ((-4611686018427387904), s15)
  else
    bd (f_X7_in x12 0 6 s15) fun r16 s17 =>
    if r16 = 0 then
      some ((-4611686018427387904), s17)
    else
      bd (f_X7_in x13 0 1 s17) fun r18 s19 =>
      if r18 = 0 then
        some ((-4611686018427387904), s19)
      else
        f_X7_odds_75 (fun x36 x37 x38 s39 =>
          bd (f_X7_lowest x38 x36.toInt64 x37 s39) fun r40 s41 =>
          some (r40, s41)) zN x9 x10 x11 x12 x13 0 0 s19
def f_X7_odds_36   (x3 : Int32) (x4 : Int32) (x5 : Int32) (x6 : Int32) (x7 : Int32) (s8 : zMem) : Option (Int64 × zMem) :=
  f_X7_odds_37 x3 x4 x5 x6 x7 0 s8
def f_X7_odds  (p1 : Int32) (p2 : Int32) (p3 : Int32) (p4 : Int32) (p5 : Int32) (s0 : zMem) : Option (Int64 × zMem) :=
  bd (f_X7_in p1 0 99999 s0) fun r1 s2 =>
  if r1 = 0 then
    f_X7_odds_36 p1 p2 p3 p4 p5 s2
  else
    bd (f_X7_in p2 1 40 s2) fun r42 s43 =>
    if r42 = 0 then
      f_X7_odds_36 p1 p2 p3 p4 p5 s43
    else
      bd (f_X7_in p3 0 999 s43) fun r44 s45 =>
      if r44 = 0 then
        f_X7_odds_36 p1 p2 p3 p4 p5 s45
      else
        f_X7_odds_37 p1 p2 p3 p4 p5 1 s45
def f_X7_image_7  (c31 : zMem → Option (Int32 × zMem)) : Nat → Int32 → zMem → Option (Int32 × zMem)
  | 0, _, _ => none
  | n + 1, x2, s3 =>
    if 18 ≤ x2 then
      c31 s3
    else
      gd (zib x2 18) <|
      gd (zib x2 58) <|
      nm (zUp s3 58 (zix x2) (s3 50 (zix x2))) fun s4 =>
      nm (x2 + 1) fun x5 =>
      f_X7_image_7 c31 n x5 s4
def f_X7_image_33  (c105 : zMem → Option (Int32 × zMem)) : Nat → Int32 → zMem → Option (Int32 × zMem)
  | 0, _, _ => none
  | n + 1, x7, s8 =>
    if 10 ≤ x7 then
      c105 s8
    else
      gd (zib x7 10) <|
      gd (zib (18 + x7) 58) <|
      nm (zUp s8 58 (zix (18 + x7)) (s8 51 (zix x7))) fun s9 =>
      gd (zib x7 10) <|
      gd (zib (28 + x7) 58) <|
      nm (zUp s9 58 (zix (28 + x7)) (s9 52 (zix x7))) fun s10 =>
      gd (zib x7 10) <|
      gd (zib (38 + x7) 58) <|
      nm (zUp s10 58 (zix (38 + x7)) (s10 53 (zix x7))) fun s11 =>
      gd (zib x7 10) <|
      gd (zib (48 + x7) 58) <|
      nm (zUp s11 58 (zix (48 + x7)) (s11 54 (zix x7))) fun s12 =>
      nm (x7 + 1) fun x13 =>
      f_X7_image_33 c105 n x13 s12
def f_X7_image   (s0 : zMem) : Option (Int32 × zMem) :=
  nm (zUp s0 47 16 1) fun s1 =>
  f_X7_image_7 (fun s6 =>
    f_X7_image_33 (fun s14 =>
      gd (zib 0 4) <|
      nm (zUp s14 59 (zix 0) (s14 47 0)) fun s15 =>
      gd (zib 1 4) <|
      nm (zUp s15 59 (zix 1) (s15 47 8)) fun s16 =>
      gd (zib 2 4) <|
      nm (zUp s16 59 (zix 2) (s16 47 9)) fun s17 =>
      gd (zib 3 4) <|
      nm (zUp s17 59 (zix 3) (s17 47 15)) fun s18 =>
      some (s18 47 0, s18)) zN 0 s6) zN 0 s1
def f_X7_back_12  (c36 : zMem → Option (Int32 × zMem)) : Nat → Int32 → zMem → Option (Int32 × zMem)
  | 0, _, _ => none
  | n + 1, x1, s2 =>
    if 18 ≤ x1 then
      c36 s2
    else
      gd (zib x1 58) <|
      gd (zib x1 18) <|
      nm (zUp s2 50 (zix x1) (s2 58 (zix x1))) fun s3 =>
      nm (x1 + 1) fun x4 =>
      f_X7_back_12 c36 n x4 s3
def f_X7_back_38  (c110 : zMem → Option (Int32 × zMem)) : Nat → Int32 → zMem → Option (Int32 × zMem)
  | 0, _, _ => none
  | n + 1, x6, s7 =>
    if 10 ≤ x6 then
      c110 s7
    else
      gd (zib (18 + x6) 58) <|
      gd (zib x6 10) <|
      nm (zUp s7 51 (zix x6) (s7 58 (zix (18 + x6)))) fun s8 =>
      gd (zib (28 + x6) 58) <|
      gd (zib x6 10) <|
      nm (zUp s8 52 (zix x6) (s8 58 (zix (28 + x6)))) fun s9 =>
      gd (zib (38 + x6) 58) <|
      gd (zib x6 10) <|
      nm (zUp s9 53 (zix x6) (s9 58 (zix (38 + x6)))) fun s10 =>
      gd (zib (48 + x6) 58) <|
      gd (zib x6 10) <|
      nm (zUp s10 54 (zix x6) (s10 58 (zix (48 + x6)))) fun s11 =>
      nm (x6 + 1) fun x12 =>
      f_X7_back_38 c110 n x12 s11
def f_X7_back   (s0 : zMem) : Option (Int32 × zMem) :=
  if (s0 47 16) = 0 then
    some ((-3), s0)
  else
    f_X7_back_12 (fun s5 =>
      f_X7_back_38 (fun s13 =>
        gd (zib 0 4) <|
        nm (zUp s13 47 0 (s13 59 (zix 0))) fun s14 =>
        gd (zib 1 4) <|
        nm (zUp s14 47 8 (s14 59 (zix 1))) fun s15 =>
        gd (zib 2 4) <|
        nm (zUp s15 47 9 (s15 59 (zix 2))) fun s16 =>
        gd (zib 3 4) <|
        nm (zUp s16 47 15 (s16 59 (zix 3))) fun s17 =>
        some (s17 47 0, s17)) zN 0 s5) zN 0 s0
def f_X7_sheet_70   : Nat → Int32 → Int32 → zMem → Option (Int32 × zMem)
  | 0, _, _, _ => none
  | n + 1, x19, x20, s21 =>
    if 40 ≤ x20 then
      some (1, s21)
    else
      gd (zib ((40 * x19) + x20) 160) <|
      nm (zUp s21 62 (zix ((40 * x19) + x20)) 0) fun s22 =>
      nm (x20 + 1) fun x23 =>
      f_X7_sheet_70 n x19 x23 s22
def f_X7_sheet_66   (x14 : Int32) (t15 : Int32) (t16 : Int32) (s17 : zMem) : Option (Int32 × zMem) :=
  gd (zib t16 4) <|
  nm (zUp s17 61 (zix t16) t15) fun s18 =>
  f_X7_sheet_70 zN x14 0 s18
def f_X7_sheet_44   (x9 : Int32) (x10 : Int32) (x11 : Int32) (s12 : zMem) : Option (Int32 × zMem) :=
  gd (zib x9 4) <|
  nm (zUp s12 60 (zix x9) x10) fun s13 =>
  if x10 = (-1) then
    f_X7_sheet_66 x9 0 x9 s13
  else
    f_X7_sheet_66 x9 x11 x9 s13
def f_X7_sheet_32   (x5 : Int32) (x6 : Int32) (x7 : Int32) (s8 : zMem) : Option (Int32 × zMem) :=
  if x6 = (-1) then
    f_X7_sheet_44 x5 x6 x7 s8
  else
    if 0 ≤ x7 then
      f_X7_sheet_44 x5 x6 x7 s8
    else
      some ((-14), s8)
def f_X7_sheet  (p1 : Int32) (p2 : Int32) (p3 : Int32) (s0 : zMem) : Option (Int32 × zMem) :=
  bd (f_X7_in p1 0 3 s0) fun r1 s2 =>
  if r1 = 0 then
    some ((-2), s2)
  else
    bd (f_X7_in p2 (-1) 2 s2) fun r3 s4 =>
    if r3 = 0 then
      some ((-2), s4)
    else
      if p2 = (-1) then
        f_X7_sheet_32 p1 p2 p3 s4
      else
        if p3 ≤ 40 then
          f_X7_sheet_32 p1 p2 p3 s4
        else
          some ((-2), s4)
def f_X7_cell  (p1 : Int32) (p2 : Int32) (p3 : Int32) (s0 : zMem) : Option (Int32 × zMem) :=
  bd (f_X7_in p1 0 3 s0) fun r1 s2 =>
  if r1 = 0 then
    some ((-2), s2)
  else
    gd (zib p1 4) <|
    if (s2 60 (zix p1)) = (-1) then
      some ((-11), s2)
    else
      gd (zib p1 4) <|
      bd (f_X7_in p2 0 ((s2 61 (zix p1)) - 1) s2) fun r3 s4 =>
      if r3 = 0 then
        some ((-12), s4)
      else
        gd (zib p1 4) <|
        if (s4 60 (zix p1)) = 0 then
          gd (zib ((40 * p1) + p2) 160) <|
          nm (zUp s4 62 (zix ((40 * p1) + p2)) p3.toInt8.toInt32) fun s7 =>
          some (1, s7)
        else
          gd (zib p1 4) <|
          if (s4 60 (zix p1)) = 1 then
            gd (zib ((40 * p1) + p2) 160) <|
            nm (zUp s4 62 (zix ((40 * p1) + p2)) p3.toInt16.toInt32) fun s6 =>
            some (1, s6)
          else
            gd (zib ((40 * p1) + p2) 160) <|
            nm (zUp s4 62 (zix ((40 * p1) + p2)) p3) fun s5 =>
            some (1, s5)
def f_X7_copy_173  (c147 : Int32 → Int32 → Int32 → Int32 → zMem → Option (Int32 × zMem)) (x12 : Int32) (x13 : Int32) (x14 : Int32) (x15 : Int32) (t16 : Int32) (s17 : zMem) : Option (Int32 × zMem) :=
  gd (zib (x13 + t16) 160) <|
  gd (zib (x14 + t16) 160) <|
  nm (zUp s17 62 (zix (x14 + t16)) (s17 62 (zix (x13 + t16)))) fun s18 =>
  nm (x15 + 1) fun x19 =>
  c147 x12 x13 x14 x19 s18
def f_X7_copy_147   : Nat → Int32 → Int32 → Int32 → Int32 → zMem → Option (Int32 × zMem)
  | 0, _, _, _, _, _ => none
  | n + 1, x7, x8, x9, x10, s11 =>
    if x7 ≤ x10 then
      some (x7, s11)
    else
      if x9 ≤ x8 then
        f_X7_copy_173 (fun x20 x21 x22 x23 s24 =>
          f_X7_copy_147 n x20 x21 x22 x23 s24) x7 x8 x9 x10 x10 s11
      else
        f_X7_copy_173 (fun x25 x26 x27 x28 s29 =>
          f_X7_copy_147 n x25 x26 x27 x28 s29) x7 x8 x9 x10 ((x7 - 1) - x10) s11
def f_X7_copy  (p1 : Int32) (p2 : Int32) (p3 : Int32) (p4 : Int32) (p5 : Int32) (s0 : zMem) : Option (Int32 × zMem) :=
  bd (f_X7_in p1 0 3 s0) fun r1 s2 =>
  if r1 = 0 then
    some ((-2), s2)
  else
    bd (f_X7_in p3 0 3 s2) fun r3 s4 =>
    if r3 = 0 then
      some ((-2), s4)
    else
      gd (zib p1 4) <|
      if (s4 60 (zix p1)) = (-1) then
        some ((-11), s4)
      else
        gd (zib p3 4) <|
        if (s4 60 (zix p3)) = (-1) then
          some ((-11), s4)
        else
          gd (zib p1 4) <|
          gd (zib p3 4) <|
          if (s4 60 (zix p1)) = (s4 60 (zix p3)) then
            if p5 < 0 then
              some ((-12), s4)
            else
              if p2 < 0 then
                some ((-12), s4)
              else
                if p4 < 0 then
                  some ((-12), s4)
                else
                  gd (zib p1 4) <|
                  if (s4 61 (zix p1)) < p2 then
                    some ((-12), s4)
                  else
                    gd (zib p3 4) <|
                    if (s4 61 (zix p3)) < p4 then
                      some ((-12), s4)
                    else
                      gd (zib p1 4) <|
                      if ((s4 61 (zix p1)) - p2) < p5 then
                        some ((-12), s4)
                      else
                        gd (zib p3 4) <|
                        if p5 ≤ ((s4 61 (zix p3)) - p4) then
                          nm ((40 * p1) + p2) fun x5 =>
                          nm ((40 * p3) + p4) fun x6 =>
                          f_X7_copy_147 zN p5 x5 x6 0 s4
                        else
                          some ((-12), s4)
          else
            some ((-13), s4)
def f_X7_hutsBy_64   : Nat → Int32 → Int32 → Int32 → Int32 → Int32 → zMem → Option (Int32 × zMem)
  | 0, _, _, _, _, _, _ => none
  | n + 1, x7, x8, x9, x10, x11, s12 =>
    if x9 ≤ x11 then
      some (x10, s12)
    else
      nm (x8 + (2 * x11)) fun x13 =>
      if x8 < 0 then
        some ((-12), s12)
      else
        if x13 < x8 then
          some ((-12), s12)
        else
          gd (zib x7 4) <|
          if x13 ≤ ((s12 61 (zix x7)) - 2) then
            nm ((40 * x7) + x13) fun x14 =>
            gd (zib x14 160) <|
            gd (zib (x14 + 1) 160) <|
            bd (f_X7_hut (s12 62 (zix x14)) (s12 62 (zix (x14 + 1))) s12) fun r15 s16 =>
            if r15 < 0 then
              nm (x10 + 0) fun x17 =>
              nm (x11 + 1) fun x18 =>
              f_X7_hutsBy_64 n x7 x8 x9 x17 x18 s16
            else
              nm (x10 + 1) fun x19 =>
              nm (x11 + 1) fun x20 =>
              f_X7_hutsBy_64 n x7 x8 x9 x19 x20 s16
          else
            some ((-12), s12)
def f_X7_hutsBy  (p1 : Int32) (p2 : Int32) (p3 : Int32) (p4 : Int32) (s0 : zMem) : Option (Int32 × zMem) :=
  bd (f_X7_in p1 0 3 s0) fun r1 s2 =>
  if r1 = 0 then
    some ((-2), s2)
  else
    bd (f_X7_in p2 0 2 s2) fun r3 s4 =>
    if r3 = 0 then
      some ((-2), s4)
    else
      bd (f_X7_in p4 0 6 s4) fun r5 s6 =>
      if r5 = 0 then
        some ((-2), s6)
      else
        gd (zib p1 4) <|
        if (s6 60 (zix p1)) = (-1) then
          some ((-11), s6)
        else
          gd (zib p1 4) <|
          if (s6 60 (zix p1)) = p2 then
            f_X7_hutsBy_64 zN p1 p3 p4 0 0 s6
          else
            some ((-13), s6)
def f_X7_isUnder  (p1 : Int32) (p2 : Int32) (s0 : zMem) : Option (Int32 × zMem) :=
  if p2 = 0 then
    some (1, s0)
  else
    if p1 = p2 then
      some (1, s0)
    else
      if p2 = 1 then
        if p1 = 3 then
          some (1, s0)
        else
          if p2 = 2 then
            if p1 = 4 then
              some (1, s0)
            else
              some (0, s0)
          else
            some (0, s0)
      else
        if p2 = 2 then
          if p1 = 4 then
            some (1, s0)
          else
            some (0, s0)
        else
          some (0, s0)
def f_X7_taken  (p1 : Int32) (p2 : Int32) (s0 : zMem) : Option (Int32 × zMem) :=
  bd (f_X7_in p2 0 6 s0) fun r1 s2 =>
  if r1 = 0 then
    some ((-2), s2)
  else
    bd (f_X7_in p1 0 11 s2) fun r3 s4 =>
    if r3 = 0 then
      some ((-12), s4)
    else
      if (zrem p1 6) < (s4 47 0) then
        if p1 < 6 then
          if 6 ≤ p2 then
            some ((-13), s4)
          else
            gd (zib p1 6) <|
            bd (f_X7_isUnder (s4 48 (zix p1)) p2 s4) fun r5 s6 =>
            if r5 = 0 then
              some ((-13), s6)
            else
              some (p1, s6)
        else
          if p2 = 6 then
            gd (zib (3 * (p1 - 6)) 18) <|
            some (s4 50 (zix (3 * (p1 - 6))), s4)
          else
            some ((-13), s4)
      else
        some ((-11), s4)
end
