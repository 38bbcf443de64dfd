section
-- ===== PART A: goes FIRST, ahead of the names: the tables' words, and 'selects' of the private methods out of them =====
/-- a private method of a class that the tables say can be made, by its rows of tables_1 -/
def lw_okq (q : MethodName × Nat) : Prop := (q.1.cls ≠ "java/lang/invoke/MethodHandle" ∧ q.1.cls ≠ "java/lang/invoke/VarHandle") ∧ Cond.instantiable q.1.cls q.2 ∈ tables_1 ∧ Cond.privateMethod q.1 ∈ tables_1 ∧ Cond.instanceMethod q.1 ∈ tables_1
theorem lw_p0 : lw_okq (⟨"AdjectiveCoupons$Text", "step", "()V"⟩, 5) := ⟨⟨by decide +kernel, by decide +kernel⟩, List.mem_of_getElem? (i := 27) (by decide +kernel), List.mem_of_getElem? (i := 350) (by decide +kernel), List.mem_of_getElem? (i := 351) (by decide +kernel)⟩
theorem lw_p1 : lw_okq (⟨"AdjectiveCoupons$Text", "readClause", "(LAdjectiveCoupons$Told;)Z"⟩, 5) := ⟨⟨by decide +kernel, by decide +kernel⟩, List.mem_of_getElem? (i := 27) (by decide +kernel), List.mem_of_getElem? (i := 362) (by decide +kernel), List.mem_of_getElem? (i := 363) (by decide +kernel)⟩
theorem lw_p2 : lw_okq (⟨"AdjectiveCoupons$Text", "clauseHere", "()I"⟩, 5) := ⟨⟨by decide +kernel, by decide +kernel⟩, List.mem_of_getElem? (i := 27) (by decide +kernel), List.mem_of_getElem? (i := 366) (by decide +kernel), List.mem_of_getElem? (i := 367) (by decide +kernel)⟩
theorem lw_p3 : lw_okq (⟨"AdjectiveCoupons$Text", "readChange", "(LAdjectiveCoupons$Told;)Z"⟩, 5) := ⟨⟨by decide +kernel, by decide +kernel⟩, List.mem_of_getElem? (i := 27) (by decide +kernel), List.mem_of_getElem? (i := 424) (by decide +kernel), List.mem_of_getElem? (i := 425) (by decide +kernel)⟩
theorem lw_p4 : lw_okq (⟨"AdjectiveCoupons$Text", "numberHere", "(I)I"⟩, 5) := ⟨⟨by decide +kernel, by decide +kernel⟩, List.mem_of_getElem? (i := 27) (by decide +kernel), List.mem_of_getElem? (i := 428) (by decide +kernel), List.mem_of_getElem? (i := 429) (by decide +kernel)⟩
theorem lw_p5 : lw_okq (⟨"AdjectiveCoupons", "isWord", "(I)Z"⟩, 9) := ⟨⟨by decide +kernel, by decide +kernel⟩, List.mem_of_getElem? (i := 19) (by decide +kernel), List.mem_of_getElem? (i := 470) (by decide +kernel), List.mem_of_getElem? (i := 471) (by decide +kernel)⟩
theorem lw_p6 : lw_okq (⟨"AdjectiveCoupons", "isPerson", "(I)Z"⟩, 9) := ⟨⟨by decide +kernel, by decide +kernel⟩, List.mem_of_getElem? (i := 19) (by decide +kernel), List.mem_of_getElem? (i := 493) (by decide +kernel), List.mem_of_getElem? (i := 494) (by decide +kernel)⟩
theorem lw_p7 : lw_okq (⟨"AdjectiveCoupons", "priceFor", "(II)I"⟩, 9) := ⟨⟨by decide +kernel, by decide +kernel⟩, List.mem_of_getElem? (i := 19) (by decide +kernel), List.mem_of_getElem? (i := 512) (by decide +kernel), List.mem_of_getElem? (i := 513) (by decide +kernel)⟩
theorem lw_p8 : lw_okq (⟨"AdjectiveCoupons$Prices", "kindAt", "(LAdjectiveCoupons$Line;I)I"⟩, 2) := ⟨⟨by decide +kernel, by decide +kernel⟩, List.mem_of_getElem? (i := 199) (by decide +kernel), List.mem_of_getElem? (i := 526) (by decide +kernel), List.mem_of_getElem? (i := 527) (by decide +kernel)⟩
theorem lw_p9 : lw_okq (⟨"AdjectiveCoupons$Prices", "isFree", "(IZ)Z"⟩, 2) := ⟨⟨by decide +kernel, by decide +kernel⟩, List.mem_of_getElem? (i := 199) (by decide +kernel), List.mem_of_getElem? (i := 542) (by decide +kernel), List.mem_of_getElem? (i := 543) (by decide +kernel)⟩
theorem lw_p10 : lw_okq (⟨"AdjectiveCoupons$Prices", "priceOfOne", "(II)I"⟩, 2) := ⟨⟨by decide +kernel, by decide +kernel⟩, List.mem_of_getElem? (i := 199) (by decide +kernel), List.mem_of_getElem? (i := 546) (by decide +kernel), List.mem_of_getElem? (i := 547) (by decide +kernel)⟩
theorem lw_p11 : lw_okq (⟨"AdjectiveCoupons", "areTwo", "(II)Z"⟩, 9) := ⟨⟨by decide +kernel, by decide +kernel⟩, List.mem_of_getElem? (i := 19) (by decide +kernel), List.mem_of_getElem? (i := 640) (by decide +kernel), List.mem_of_getElem? (i := 641) (by decide +kernel)⟩
theorem lw_p12 : lw_okq (⟨"AdjectiveCoupons", "canBeOrdered", "()Z"⟩, 9) := ⟨⟨by decide +kernel, by decide +kernel⟩, List.mem_of_getElem? (i := 19) (by decide +kernel), List.mem_of_getElem? (i := 689) (by decide +kernel), List.mem_of_getElem? (i := 690) (by decide +kernel)⟩
theorem lw_p13 : lw_okq (⟨"AdjectiveCoupons$Line", "swap", "(II)V"⟩, 2) := ⟨⟨by decide +kernel, by decide +kernel⟩, List.mem_of_getElem? (i := 179) (by decide +kernel), List.mem_of_getElem? (i := 707) (by decide +kernel), List.mem_of_getElem? (i := 708) (by decide +kernel)⟩
theorem lw_p14 : lw_okq (⟨"AdjectiveCoupons$Trials", "weigh", "(I)V"⟩, 7) := ⟨⟨by decide +kernel, by decide +kernel⟩, List.mem_of_getElem? (i := 250) (by decide +kernel), List.mem_of_getElem? (i := 713) (by decide +kernel), List.mem_of_getElem? (i := 714) (by decide +kernel)⟩
theorem lw_p15 : lw_okq (⟨"AdjectiveCoupons$Trials", "leaveOut", "(LAdjectiveCoupons$Line;I)Z"⟩, 7) := ⟨⟨by decide +kernel, by decide +kernel⟩, List.mem_of_getElem? (i := 250) (by decide +kernel), List.mem_of_getElem? (i := 742) (by decide +kernel), List.mem_of_getElem? (i := 743) (by decide +kernel)⟩
def lw_privs_1 : List (MethodName × Nat) := [(⟨"AdjectiveCoupons$Text", "step", "()V"⟩, 5), (⟨"AdjectiveCoupons$Text", "readClause", "(LAdjectiveCoupons$Told;)Z"⟩, 5), (⟨"AdjectiveCoupons$Text", "clauseHere", "()I"⟩, 5), (⟨"AdjectiveCoupons$Text", "readChange", "(LAdjectiveCoupons$Told;)Z"⟩, 5), (⟨"AdjectiveCoupons$Text", "numberHere", "(I)I"⟩, 5), (⟨"AdjectiveCoupons", "isWord", "(I)Z"⟩, 9), (⟨"AdjectiveCoupons", "isPerson", "(I)Z"⟩, 9), (⟨"AdjectiveCoupons", "priceFor", "(II)I"⟩, 9), (⟨"AdjectiveCoupons$Prices", "kindAt", "(LAdjectiveCoupons$Line;I)I"⟩, 2), (⟨"AdjectiveCoupons$Prices", "isFree", "(IZ)Z"⟩, 2), (⟨"AdjectiveCoupons$Prices", "priceOfOne", "(II)I"⟩, 2), (⟨"AdjectiveCoupons", "areTwo", "(II)Z"⟩, 9), (⟨"AdjectiveCoupons", "canBeOrdered", "()Z"⟩, 9), (⟨"AdjectiveCoupons$Line", "swap", "(II)V"⟩, 2), (⟨"AdjectiveCoupons$Trials", "weigh", "(I)V"⟩, 7), (⟨"AdjectiveCoupons$Trials", "leaveOut", "(LAdjectiveCoupons$Line;I)Z"⟩, 7)]
theorem lw_r1 : ∀ q ∈ lw_privs_1, lw_okq q := List.forall_mem_cons.mpr ⟨lw_p0, List.forall_mem_cons.mpr ⟨lw_p1, List.forall_mem_cons.mpr ⟨lw_p2, List.forall_mem_cons.mpr ⟨lw_p3, List.forall_mem_cons.mpr ⟨lw_p4, List.forall_mem_cons.mpr ⟨lw_p5, List.forall_mem_cons.mpr ⟨lw_p6, List.forall_mem_cons.mpr ⟨lw_p7, List.forall_mem_cons.mpr ⟨lw_p8, List.forall_mem_cons.mpr ⟨lw_p9, List.forall_mem_cons.mpr ⟨lw_p10, List.forall_mem_cons.mpr ⟨lw_p11, List.forall_mem_cons.mpr ⟨lw_p12, List.forall_mem_cons.mpr ⟨lw_p13, List.forall_mem_cons.mpr ⟨lw_p14, List.forall_mem_cons.mpr ⟨lw_p15, fun _ h => absurd h List.not_mem_nil⟩⟩⟩⟩⟩⟩⟩⟩⟩⟩⟩⟩⟩⟩⟩⟩
theorem lw_p16 : lw_okq (⟨"AdjectiveCoupons$Trials", "nextFilling", "(LAdjectiveCoupons$Line;II)Z"⟩, 7) := ⟨⟨by decide +kernel, by decide +kernel⟩, List.mem_of_getElem? (i := 250) (by decide +kernel), List.mem_of_getElem? (i := 766) (by decide +kernel), List.mem_of_getElem? (i := 767) (by decide +kernel)⟩
theorem lw_p17 : lw_okq (⟨"AdjectiveCoupons$Drafts", "sumOf", "(LAdjectiveCoupons$Row;I)I"⟩, 7) := ⟨⟨by decide +kernel, by decide +kernel⟩, List.mem_of_getElem? (i := 214) (by decide +kernel), List.mem_of_getElem? (i := 813) (by decide +kernel), List.mem_of_getElem? (i := 814) (by decide +kernel)⟩
theorem lw_p18 : lw_okq (⟨"AdjectiveCoupons$Drafts", "offer", "(I)V"⟩, 7) := ⟨⟨by decide +kernel, by decide +kernel⟩, List.mem_of_getElem? (i := 214) (by decide +kernel), List.mem_of_getElem? (i := 819) (by decide +kernel), List.mem_of_getElem? (i := 820) (by decide +kernel)⟩
theorem lw_p19 : lw_okq (⟨"AdjectiveCoupons$Drafts", "canPay", "(IIII)Z"⟩, 7) := ⟨⟨by decide +kernel, by decide +kernel⟩, List.mem_of_getElem? (i := 214) (by decide +kernel), List.mem_of_getElem? (i := 835) (by decide +kernel), List.mem_of_getElem? (i := 836) (by decide +kernel)⟩
theorem lw_p20 : lw_okq (⟨"AdjectiveCoupons", "likenessTo", "(I)I"⟩, 9) := ⟨⟨by decide +kernel, by decide +kernel⟩, List.mem_of_getElem? (i := 19) (by decide +kernel), List.mem_of_getElem? (i := 844) (by decide +kernel), List.mem_of_getElem? (i := 845) (by decide +kernel)⟩
theorem lw_p21 : lw_okq (⟨"AdjectiveCoupons", "isTradeLeft", "(II)Z"⟩, 9) := ⟨⟨by decide +kernel, by decide +kernel⟩, List.mem_of_getElem? (i := 19) (by decide +kernel), List.mem_of_getElem? (i := 857) (by decide +kernel), List.mem_of_getElem? (i := 858) (by decide +kernel)⟩
theorem lw_p22 : lw_okq (⟨"AdjectiveCouponsModel", "token", "()V"⟩, 35) := ⟨⟨by decide +kernel, by decide +kernel⟩, List.mem_of_getElem? (i := 889) (by decide +kernel), List.mem_of_getElem? (i := 1018) (by decide +kernel), List.mem_of_getElem? (i := 1019) (by decide +kernel)⟩
theorem lw_p23 : lw_okq (⟨"AdjectiveCouponsModel", "readsClause", "()Z"⟩, 35) := ⟨⟨by decide +kernel, by decide +kernel⟩, List.mem_of_getElem? (i := 889) (by decide +kernel), List.mem_of_getElem? (i := 1025) (by decide +kernel), List.mem_of_getElem? (i := 1026) (by decide +kernel)⟩
theorem lw_p24 : lw_okq (⟨"AdjectiveCouponsModel", "wordOf", "()I"⟩, 35) := ⟨⟨by decide +kernel, by decide +kernel⟩, List.mem_of_getElem? (i := 889) (by decide +kernel), List.mem_of_getElem? (i := 1029) (by decide +kernel), List.mem_of_getElem? (i := 1030) (by decide +kernel)⟩
theorem lw_p25 : lw_okq (⟨"AdjectiveCouponsModel", "kindWord", "()I"⟩, 35) := ⟨⟨by decide +kernel, by decide +kernel⟩, List.mem_of_getElem? (i := 889) (by decide +kernel), List.mem_of_getElem? (i := 1033) (by decide +kernel), List.mem_of_getElem? (i := 1034) (by decide +kernel)⟩
theorem lw_p26 : lw_okq (⟨"AdjectiveCouponsModel", "isWord", "(III)Z"⟩, 35) := ⟨⟨by decide +kernel, by decide +kernel⟩, List.mem_of_getElem? (i := 889) (by decide +kernel), List.mem_of_getElem? (i := 1038) (by decide +kernel), List.mem_of_getElem? (i := 1039) (by decide +kernel)⟩
theorem lw_p27 : lw_okq (⟨"AdjectiveCouponsModel", "folkWord", "()I"⟩, 35) := ⟨⟨by decide +kernel, by decide +kernel⟩, List.mem_of_getElem? (i := 889) (by decide +kernel), List.mem_of_getElem? (i := 1046) (by decide +kernel), List.mem_of_getElem? (i := 1047) (by decide +kernel)⟩
theorem lw_p28 : lw_okq (⟨"AdjectiveCouponsModel", "readsRest", "(I)Z"⟩, 35) := ⟨⟨by decide +kernel, by decide +kernel⟩, List.mem_of_getElem? (i := 889) (by decide +kernel), List.mem_of_getElem? (i := 1070) (by decide +kernel), List.mem_of_getElem? (i := 1071) (by decide +kernel)⟩
theorem lw_p29 : lw_okq (⟨"AdjectiveCouponsModel", "reads", "(III)Z"⟩, 35) := ⟨⟨by decide +kernel, by decide +kernel⟩, List.mem_of_getElem? (i := 889) (by decide +kernel), List.mem_of_getElem? (i := 1074) (by decide +kernel), List.mem_of_getElem? (i := 1075) (by decide +kernel)⟩
theorem lw_p30 : lw_okq (⟨"AdjectiveCouponsModel", "tell", "(I)V"⟩, 35) := ⟨⟨by decide +kernel, by decide +kernel⟩, List.mem_of_getElem? (i := 889) (by decide +kernel), List.mem_of_getElem? (i := 1083) (by decide +kernel), List.mem_of_getElem? (i := 1084) (by decide +kernel)⟩
theorem lw_p31 : lw_okq (⟨"AdjectiveCouponsModel", "addWord", "(II)V"⟩, 35) := ⟨⟨by decide +kernel, by decide +kernel⟩, List.mem_of_getElem? (i := 889) (by decide +kernel), List.mem_of_getElem? (i := 1087) (by decide +kernel), List.mem_of_getElem? (i := 1088) (by decide +kernel)⟩
def lw_privs_2 : List (MethodName × Nat) := [(⟨"AdjectiveCoupons$Trials", "nextFilling", "(LAdjectiveCoupons$Line;II)Z"⟩, 7), (⟨"AdjectiveCoupons$Drafts", "sumOf", "(LAdjectiveCoupons$Row;I)I"⟩, 7), (⟨"AdjectiveCoupons$Drafts", "offer", "(I)V"⟩, 7), (⟨"AdjectiveCoupons$Drafts", "canPay", "(IIII)Z"⟩, 7), (⟨"AdjectiveCoupons", "likenessTo", "(I)I"⟩, 9), (⟨"AdjectiveCoupons", "isTradeLeft", "(II)Z"⟩, 9), (⟨"AdjectiveCouponsModel", "token", "()V"⟩, 35), (⟨"AdjectiveCouponsModel", "readsClause", "()Z"⟩, 35), (⟨"AdjectiveCouponsModel", "wordOf", "()I"⟩, 35), (⟨"AdjectiveCouponsModel", "kindWord", "()I"⟩, 35), (⟨"AdjectiveCouponsModel", "isWord", "(III)Z"⟩, 35), (⟨"AdjectiveCouponsModel", "folkWord", "()I"⟩, 35), (⟨"AdjectiveCouponsModel", "readsRest", "(I)Z"⟩, 35), (⟨"AdjectiveCouponsModel", "reads", "(III)Z"⟩, 35), (⟨"AdjectiveCouponsModel", "tell", "(I)V"⟩, 35), (⟨"AdjectiveCouponsModel", "addWord", "(II)V"⟩, 35)]
theorem lw_r2 : ∀ q ∈ lw_privs_2, lw_okq q := List.forall_mem_cons.mpr ⟨lw_p16, List.forall_mem_cons.mpr ⟨lw_p17, List.forall_mem_cons.mpr ⟨lw_p18, List.forall_mem_cons.mpr ⟨lw_p19, List.forall_mem_cons.mpr ⟨lw_p20, List.forall_mem_cons.mpr ⟨lw_p21, List.forall_mem_cons.mpr ⟨lw_p22, List.forall_mem_cons.mpr ⟨lw_p23, List.forall_mem_cons.mpr ⟨lw_p24, List.forall_mem_cons.mpr ⟨lw_p25, List.forall_mem_cons.mpr ⟨lw_p26, List.forall_mem_cons.mpr ⟨lw_p27, List.forall_mem_cons.mpr ⟨lw_p28, List.forall_mem_cons.mpr ⟨lw_p29, List.forall_mem_cons.mpr ⟨lw_p30, List.forall_mem_cons.mpr ⟨lw_p31, fun _ h => absurd h List.not_mem_nil⟩⟩⟩⟩⟩⟩⟩⟩⟩⟩⟩⟩⟩⟩⟩⟩
theorem lw_p32 : lw_okq (⟨"AdjectiveCouponsModel", "addOne", "(II)V"⟩, 35) := ⟨⟨by decide +kernel, by decide +kernel⟩, List.mem_of_getElem? (i := 889) (by decide +kernel), List.mem_of_getElem? (i := 1091) (by decide +kernel), List.mem_of_getElem? (i := 1092) (by decide +kernel)⟩
theorem lw_p33 : lw_okq (⟨"AdjectiveCouponsModel", "addChange", "(I)V"⟩, 35) := ⟨⟨by decide +kernel, by decide +kernel⟩, List.mem_of_getElem? (i := 889) (by decide +kernel), List.mem_of_getElem? (i := 1095) (by decide +kernel), List.mem_of_getElem? (i := 1096) (by decide +kernel)⟩
theorem lw_p34 : lw_okq (⟨"AdjectiveCouponsModel", "clear", "()V"⟩, 35) := ⟨⟨by decide +kernel, by decide +kernel⟩, List.mem_of_getElem? (i := 889) (by decide +kernel), List.mem_of_getElem? (i := 1099) (by decide +kernel), List.mem_of_getElem? (i := 1100) (by decide +kernel)⟩
theorem lw_p35 : lw_okq (⟨"AdjectiveCouponsModel", "isWordThere", "(I)Z"⟩, 35) := ⟨⟨by decide +kernel, by decide +kernel⟩, List.mem_of_getElem? (i := 889) (by decide +kernel), List.mem_of_getElem? (i := 1107) (by decide +kernel), List.mem_of_getElem? (i := 1108) (by decide +kernel)⟩
theorem lw_p36 : lw_okq (⟨"AdjectiveCouponsModel", "kindIn", "(II)I"⟩, 35) := ⟨⟨by decide +kernel, by decide +kernel⟩, List.mem_of_getElem? (i := 889) (by decide +kernel), List.mem_of_getElem? (i := 1111) (by decide +kernel), List.mem_of_getElem? (i := 1112) (by decide +kernel)⟩
theorem lw_p37 : lw_okq (⟨"AdjectiveCouponsModel", "isOne", "(I)Z"⟩, 35) := ⟨⟨by decide +kernel, by decide +kernel⟩, List.mem_of_getElem? (i := 889) (by decide +kernel), List.mem_of_getElem? (i := 1119) (by decide +kernel), List.mem_of_getElem? (i := 1120) (by decide +kernel)⟩
theorem lw_p38 : lw_okq (⟨"AdjectiveCouponsModel", "saidBy", "(I)I"⟩, 35) := ⟨⟨by decide +kernel, by decide +kernel⟩, List.mem_of_getElem? (i := 889) (by decide +kernel), List.mem_of_getElem? (i := 1123) (by decide +kernel), List.mem_of_getElem? (i := 1124) (by decide +kernel)⟩
theorem lw_p39 : lw_okq (⟨"AdjectiveCouponsModel", "layLine", "()V"⟩, 35) := ⟨⟨by decide +kernel, by decide +kernel⟩, List.mem_of_getElem? (i := 889) (by decide +kernel), List.mem_of_getElem? (i := 1132) (by decide +kernel), List.mem_of_getElem? (i := 1133) (by decide +kernel)⟩
theorem lw_p40 : lw_okq (⟨"AdjectiveCouponsModel", "costTo", "(II)I"⟩, 35) := ⟨⟨by decide +kernel, by decide +kernel⟩, List.mem_of_getElem? (i := 889) (by decide +kernel), List.mem_of_getElem? (i := 1136) (by decide +kernel), List.mem_of_getElem? (i := 1137) (by decide +kernel)⟩
theorem lw_p41 : lw_okq (⟨"AdjectiveCouponsModel", "layKinds", "(I)V"⟩, 35) := ⟨⟨by decide +kernel, by decide +kernel⟩, List.mem_of_getElem? (i := 889) (by decide +kernel), List.mem_of_getElem? (i := 1140) (by decide +kernel), List.mem_of_getElem? (i := 1141) (by decide +kernel)⟩
theorem lw_p42 : lw_okq (⟨"AdjectiveCouponsModel", "costAt", "(I)I"⟩, 35) := ⟨⟨by decide +kernel, by decide +kernel⟩, List.mem_of_getElem? (i := 889) (by decide +kernel), List.mem_of_getElem? (i := 1144) (by decide +kernel), List.mem_of_getElem? (i := 1145) (by decide +kernel)⟩
theorem lw_p43 : lw_okq (⟨"AdjectiveCouponsModel", "isAdjective", "(I)Z"⟩, 35) := ⟨⟨by decide +kernel, by decide +kernel⟩, List.mem_of_getElem? (i := 889) (by decide +kernel), List.mem_of_getElem? (i := 1151) (by decide +kernel), List.mem_of_getElem? (i := 1152) (by decide +kernel)⟩
theorem lw_p44 : lw_okq (⟨"AdjectiveCouponsModel", "wasAhead", "(I)Z"⟩, 35) := ⟨⟨by decide +kernel, by decide +kernel⟩, List.mem_of_getElem? (i := 889) (by decide +kernel), List.mem_of_getElem? (i := 1156) (by decide +kernel), List.mem_of_getElem? (i := 1157) (by decide +kernel)⟩
theorem lw_p45 : lw_okq (⟨"AdjectiveCouponsModel", "isGood", "()Z"⟩, 35) := ⟨⟨by decide +kernel, by decide +kernel⟩, List.mem_of_getElem? (i := 889) (by decide +kernel), List.mem_of_getElem? (i := 1181) (by decide +kernel), List.mem_of_getElem? (i := 1182) (by decide +kernel)⟩
theorem lw_p46 : lw_okq (⟨"AdjectiveCouponsModel", "hasHole", "()Z"⟩, 35) := ⟨⟨by decide +kernel, by decide +kernel⟩, List.mem_of_getElem? (i := 889) (by decide +kernel), List.mem_of_getElem? (i := 1185) (by decide +kernel), List.mem_of_getElem? (i := 1186) (by decide +kernel)⟩
theorem lw_p47 : lw_okq (⟨"AdjectiveCouponsModel", "keepPast", "()V"⟩, 35) := ⟨⟨by decide +kernel, by decide +kernel⟩, List.mem_of_getElem? (i := 889) (by decide +kernel), List.mem_of_getElem? (i := 1193) (by decide +kernel), List.mem_of_getElem? (i := 1194) (by decide +kernel)⟩
def lw_privs_3 : List (MethodName × Nat) := [(⟨"AdjectiveCouponsModel", "addOne", "(II)V"⟩, 35), (⟨"AdjectiveCouponsModel", "addChange", "(I)V"⟩, 35), (⟨"AdjectiveCouponsModel", "clear", "()V"⟩, 35), (⟨"AdjectiveCouponsModel", "isWordThere", "(I)Z"⟩, 35), (⟨"AdjectiveCouponsModel", "kindIn", "(II)I"⟩, 35), (⟨"AdjectiveCouponsModel", "isOne", "(I)Z"⟩, 35), (⟨"AdjectiveCouponsModel", "saidBy", "(I)I"⟩, 35), (⟨"AdjectiveCouponsModel", "layLine", "()V"⟩, 35), (⟨"AdjectiveCouponsModel", "costTo", "(II)I"⟩, 35), (⟨"AdjectiveCouponsModel", "layKinds", "(I)V"⟩, 35), (⟨"AdjectiveCouponsModel", "costAt", "(I)I"⟩, 35), (⟨"AdjectiveCouponsModel", "isAdjective", "(I)Z"⟩, 35), (⟨"AdjectiveCouponsModel", "wasAhead", "(I)Z"⟩, 35), (⟨"AdjectiveCouponsModel", "isGood", "()Z"⟩, 35), (⟨"AdjectiveCouponsModel", "hasHole", "()Z"⟩, 35), (⟨"AdjectiveCouponsModel", "keepPast", "()V"⟩, 35)]
theorem lw_r3 : ∀ q ∈ lw_privs_3, lw_okq q := List.forall_mem_cons.mpr ⟨lw_p32, List.forall_mem_cons.mpr ⟨lw_p33, List.forall_mem_cons.mpr ⟨lw_p34, List.forall_mem_cons.mpr ⟨lw_p35, List.forall_mem_cons.mpr ⟨lw_p36, List.forall_mem_cons.mpr ⟨lw_p37, List.forall_mem_cons.mpr ⟨lw_p38, List.forall_mem_cons.mpr ⟨lw_p39, List.forall_mem_cons.mpr ⟨lw_p40, List.forall_mem_cons.mpr ⟨lw_p41, List.forall_mem_cons.mpr ⟨lw_p42, List.forall_mem_cons.mpr ⟨lw_p43, List.forall_mem_cons.mpr ⟨lw_p44, List.forall_mem_cons.mpr ⟨lw_p45, List.forall_mem_cons.mpr ⟨lw_p46, List.forall_mem_cons.mpr ⟨lw_p47, fun _ h => absurd h List.not_mem_nil⟩⟩⟩⟩⟩⟩⟩⟩⟩⟩⟩⟩⟩⟩⟩⟩
theorem lw_p48 : lw_okq (⟨"AdjectiveCouponsModel", "copy", "(II)V"⟩, 35) := ⟨⟨by decide +kernel, by decide +kernel⟩, List.mem_of_getElem? (i := 889) (by decide +kernel), List.mem_of_getElem? (i := 1197) (by decide +kernel), List.mem_of_getElem? (i := 1198) (by decide +kernel)⟩
theorem lw_p49 : lw_okq (⟨"AdjectiveCouponsModel", "worthOf", "()I"⟩, 35) := ⟨⟨by decide +kernel, by decide +kernel⟩, List.mem_of_getElem? (i := 889) (by decide +kernel), List.mem_of_getElem? (i := 1201) (by decide +kernel), List.mem_of_getElem? (i := 1202) (by decide +kernel)⟩
theorem lw_p50 : lw_okq (⟨"AdjectiveCouponsModel", "rationed", "(II)I"⟩, 35) := ⟨⟨by decide +kernel, by decide +kernel⟩, List.mem_of_getElem? (i := 889) (by decide +kernel), List.mem_of_getElem? (i := 1209) (by decide +kernel), List.mem_of_getElem? (i := 1210) (by decide +kernel)⟩
theorem lw_p51 : lw_okq (⟨"AdjectiveCouponsModel", "areTwo", "(II)Z"⟩, 35) := ⟨⟨by decide +kernel, by decide +kernel⟩, List.mem_of_getElem? (i := 889) (by decide +kernel), List.mem_of_getElem? (i := 1217) (by decide +kernel), List.mem_of_getElem? (i := 1218) (by decide +kernel)⟩
theorem lw_p52 : lw_okq (⟨"AdjectiveCouponsModel", "canBeOrdered", "()Z"⟩, 35) := ⟨⟨by decide +kernel, by decide +kernel⟩, List.mem_of_getElem? (i := 889) (by decide +kernel), List.mem_of_getElem? (i := 1247) (by decide +kernel), List.mem_of_getElem? (i := 1248) (by decide +kernel)⟩
theorem lw_p53 : lw_okq (⟨"AdjectiveCouponsModel", "layOrders", "()V"⟩, 35) := ⟨⟨by decide +kernel, by decide +kernel⟩, List.mem_of_getElem? (i := 889) (by decide +kernel), List.mem_of_getElem? (i := 1251) (by decide +kernel), List.mem_of_getElem? (i := 1252) (by decide +kernel)⟩
theorem lw_p54 : lw_okq (⟨"AdjectiveCouponsModel", "layOrder", "(I)V"⟩, 35) := ⟨⟨by decide +kernel, by decide +kernel⟩, List.mem_of_getElem? (i := 889) (by decide +kernel), List.mem_of_getElem? (i := 1258) (by decide +kernel), List.mem_of_getElem? (i := 1259) (by decide +kernel)⟩
theorem lw_p55 : lw_okq (⟨"AdjectiveCouponsModel", "citizenCost", "()I"⟩, 35) := ⟨⟨by decide +kernel, by decide +kernel⟩, List.mem_of_getElem? (i := 889) (by decide +kernel), List.mem_of_getElem? (i := 1262) (by decide +kernel), List.mem_of_getElem? (i := 1263) (by decide +kernel)⟩
theorem lw_p56 : lw_okq (⟨"AdjectiveCouponsModel", "isAheadOfBest", "()Z"⟩, 35) := ⟨⟨by decide +kernel, by decide +kernel⟩, List.mem_of_getElem? (i := 889) (by decide +kernel), List.mem_of_getElem? (i := 1266) (by decide +kernel), List.mem_of_getElem? (i := 1267) (by decide +kernel)⟩
theorem lw_p57 : lw_okq (⟨"AdjectiveCouponsModel", "areWords", "(I)Z"⟩, 35) := ⟨⟨by decide +kernel, by decide +kernel⟩, List.mem_of_getElem? (i := 889) (by decide +kernel), List.mem_of_getElem? (i := 1278) (by decide +kernel), List.mem_of_getElem? (i := 1279) (by decide +kernel)⟩
theorem lw_p58 : lw_okq (⟨"AdjectiveCouponsModel", "layWithout", "(I)V"⟩, 35) := ⟨⟨by decide +kernel, by decide +kernel⟩, List.mem_of_getElem? (i := 889) (by decide +kernel), List.mem_of_getElem? (i := 1285) (by decide +kernel), List.mem_of_getElem? (i := 1286) (by decide +kernel)⟩
theorem lw_p59 : lw_okq (⟨"AdjectiveCouponsModel", "layFilled", "(I)V"⟩, 35) := ⟨⟨by decide +kernel, by decide +kernel⟩, List.mem_of_getElem? (i := 889) (by decide +kernel), List.mem_of_getElem? (i := 1293) (by decide +kernel), List.mem_of_getElem? (i := 1294) (by decide +kernel)⟩
theorem lw_p60 : lw_okq (⟨"AdjectiveCouponsModel", "layDraft", "(I)V"⟩, 35) := ⟨⟨by decide +kernel, by decide +kernel⟩, List.mem_of_getElem? (i := 889) (by decide +kernel), List.mem_of_getElem? (i := 1309) (by decide +kernel), List.mem_of_getElem? (i := 1310) (by decide +kernel)⟩
theorem lw_p61 : lw_okq (⟨"AdjectiveCouponsModel", "worthOfSet", "(I)I"⟩, 35) := ⟨⟨by decide +kernel, by decide +kernel⟩, List.mem_of_getElem? (i := 889) (by decide +kernel), List.mem_of_getElem? (i := 1317) (by decide +kernel), List.mem_of_getElem? (i := 1318) (by decide +kernel)⟩
theorem lw_p62 : lw_okq (⟨"AdjectiveCouponsModel", "canPay", "(II)Z"⟩, 35) := ⟨⟨by decide +kernel, by decide +kernel⟩, List.mem_of_getElem? (i := 889) (by decide +kernel), List.mem_of_getElem? (i := 1325) (by decide +kernel), List.mem_of_getElem? (i := 1326) (by decide +kernel)⟩
theorem lw_p63 : lw_okq (⟨"AdjectiveCouponsModel", "likenessOf", "(I)I"⟩, 35) := ⟨⟨by decide +kernel, by decide +kernel⟩, List.mem_of_getElem? (i := 889) (by decide +kernel), List.mem_of_getElem? (i := 1333) (by decide +kernel), List.mem_of_getElem? (i := 1334) (by decide +kernel)⟩
def lw_privs_4 : List (MethodName × Nat) := [(⟨"AdjectiveCouponsModel", "copy", "(II)V"⟩, 35), (⟨"AdjectiveCouponsModel", "worthOf", "()I"⟩, 35), (⟨"AdjectiveCouponsModel", "rationed", "(II)I"⟩, 35), (⟨"AdjectiveCouponsModel", "areTwo", "(II)Z"⟩, 35), (⟨"AdjectiveCouponsModel", "canBeOrdered", "()Z"⟩, 35), (⟨"AdjectiveCouponsModel", "layOrders", "()V"⟩, 35), (⟨"AdjectiveCouponsModel", "layOrder", "(I)V"⟩, 35), (⟨"AdjectiveCouponsModel", "citizenCost", "()I"⟩, 35), (⟨"AdjectiveCouponsModel", "isAheadOfBest", "()Z"⟩, 35), (⟨"AdjectiveCouponsModel", "areWords", "(I)Z"⟩, 35), (⟨"AdjectiveCouponsModel", "layWithout", "(I)V"⟩, 35), (⟨"AdjectiveCouponsModel", "layFilled", "(I)V"⟩, 35), (⟨"AdjectiveCouponsModel", "layDraft", "(I)V"⟩, 35), (⟨"AdjectiveCouponsModel", "worthOfSet", "(I)I"⟩, 35), (⟨"AdjectiveCouponsModel", "canPay", "(II)Z"⟩, 35), (⟨"AdjectiveCouponsModel", "likenessOf", "(I)I"⟩, 35)]
theorem lw_r4 : ∀ q ∈ lw_privs_4, lw_okq q := List.forall_mem_cons.mpr ⟨lw_p48, List.forall_mem_cons.mpr ⟨lw_p49, List.forall_mem_cons.mpr ⟨lw_p50, List.forall_mem_cons.mpr ⟨lw_p51, List.forall_mem_cons.mpr ⟨lw_p52, List.forall_mem_cons.mpr ⟨lw_p53, List.forall_mem_cons.mpr ⟨lw_p54, List.forall_mem_cons.mpr ⟨lw_p55, List.forall_mem_cons.mpr ⟨lw_p56, List.forall_mem_cons.mpr ⟨lw_p57, List.forall_mem_cons.mpr ⟨lw_p58, List.forall_mem_cons.mpr ⟨lw_p59, List.forall_mem_cons.mpr ⟨lw_p60, List.forall_mem_cons.mpr ⟨lw_p61, List.forall_mem_cons.mpr ⟨lw_p62, List.forall_mem_cons.mpr ⟨lw_p63, fun _ h => absurd h List.not_mem_nil⟩⟩⟩⟩⟩⟩⟩⟩⟩⟩⟩⟩⟩⟩⟩⟩
theorem lw_p64 : lw_okq (⟨"AdjectiveCouponsModel", "netOf", "(I)I"⟩, 35) := ⟨⟨by decide +kernel, by decide +kernel⟩, List.mem_of_getElem? (i := 889) (by decide +kernel), List.mem_of_getElem? (i := 1350) (by decide +kernel), List.mem_of_getElem? (i := 1351) (by decide +kernel)⟩
theorem lw_p65 : lw_okq (⟨"AdjectiveCouponsModel", "netOfSet", "(I)I"⟩, 35) := ⟨⟨by decide +kernel, by decide +kernel⟩, List.mem_of_getElem? (i := 889) (by decide +kernel), List.mem_of_getElem? (i := 1358) (by decide +kernel), List.mem_of_getElem? (i := 1359) (by decide +kernel)⟩
def lw_privs_5 : List (MethodName × Nat) := [(⟨"AdjectiveCouponsModel", "netOf", "(I)I"⟩, 35), (⟨"AdjectiveCouponsModel", "netOfSet", "(I)I"⟩, 35)]
theorem lw_r5 : ∀ q ∈ lw_privs_5, lw_okq q := List.forall_mem_cons.mpr ⟨lw_p64, List.forall_mem_cons.mpr ⟨lw_p65, fun _ h => absurd h List.not_mem_nil⟩⟩
def lw_privs : List (MethodName × Nat) := lw_privs_1 ++ (lw_privs_2 ++ (lw_privs_3 ++ (lw_privs_4 ++ (lw_privs_5))))
def lw_tbl : List Cond := k2_sels lw_privs ++ tables_1
theorem lw_privs_ok : ∀ q ∈ lw_privs, lw_okq q := by
  show ∀ q ∈ lw_privs_1 ++ (lw_privs_2 ++ (lw_privs_3 ++ (lw_privs_4 ++ (lw_privs_5)))), lw_okq q
  exact List.forall_mem_append.mpr ⟨lw_r1, List.forall_mem_append.mpr ⟨lw_r2, List.forall_mem_append.mpr ⟨lw_r3, List.forall_mem_append.mpr ⟨lw_r4, lw_r5⟩⟩⟩⟩
-- ===== the classes, their fields; the methods; the pool entries, by program out of tables_1 =====
def zcn : Nat → String := fun k => match k with
  | 0 => "AdjectiveCoupons"
  | 1 => "AdjectiveCoupons$Text"
  | 2 => "AdjectiveCoupons$Row"
  | 3 => "AdjectiveCoupons$Told"
  | 4 => "AdjectiveCoupons$State"
  | 5 => "AdjectiveCoupons$Past"
  | 6 => "AdjectiveCoupons$Line"
  | 7 => "AdjectiveCoupons$Prices"
  | 8 => "AdjectiveCoupons$Drafts"
  | 9 => "AdjectiveCoupons$Trials"
  | 10 => "AdjectiveCouponsModel"
  | 11 => "AdjectiveCouponsLaw"
  | _ => "java/lang/Integer"
def zT0 : u_T := fun k => match k with
  | 0 => ("AdjectiveCoupons", "text", "LAdjectiveCoupons$Text;", true)
  | 1 => ("AdjectiveCoupons", "told", "LAdjectiveCoupons$Told;", true)
  | 2 => ("AdjectiveCoupons", "sketch", "LAdjectiveCoupons$Told;", true)
  | 3 => ("AdjectiveCoupons", "now", "LAdjectiveCoupons$State;", true)
  | 4 => ("AdjectiveCoupons", "past", "LAdjectiveCoupons$Past;", true)
  | 5 => ("AdjectiveCoupons", "line", "LAdjectiveCoupons$Line;", true)
  | 6 => ("AdjectiveCoupons", "prices", "LAdjectiveCoupons$Prices;", true)
  | 7 => ("AdjectiveCoupons", "drafts", "LAdjectiveCoupons$Drafts;", true)
  | _ => ("AdjectiveCoupons", "trials", "LAdjectiveCoupons$Trials;", true)
def zT1 : u_T := fun k => match k with
  | 0 => ("AdjectiveCoupons$Text", "letters", "LAdjectiveCoupons$Row;", true)
  | 1 => ("AdjectiveCoupons$Text", "length", "I", false)
  | 2 => ("AdjectiveCoupons$Text", "clauses", "I", false)
  | 3 => ("AdjectiveCoupons$Text", "start", "I", false)
  | _ => ("AdjectiveCoupons$Text", "end", "I", false)
def zT2 : u_T := fun k => match k with
  | _ => ("AdjectiveCoupons$Row", "cells", "[I", true)
def zT3 : u_T := fun k => match k with
  | 0 => ("AdjectiveCoupons$Told", "words", "I", false)
  | 1 => ("AdjectiveCoupons$Told", "people", "I", false)
  | 2 => ("AdjectiveCoupons$Told", "changes", "I", false)
  | 3 => ("AdjectiveCoupons$Told", "ration", "I", false)
  | 4 => ("AdjectiveCoupons$Told", "rules", "I", false)
  | 5 => ("AdjectiveCoupons$Told", "kinds", "LAdjectiveCoupons$Row;", true)
  | 6 => ("AdjectiveCoupons$Told", "worths", "LAdjectiveCoupons$Row;", true)
  | 7 => ("AdjectiveCoupons$Told", "peopleKinds", "LAdjectiveCoupons$Row;", true)
  | 8 => ("AdjectiveCoupons$Told", "wants", "LAdjectiveCoupons$Row;", true)
  | 9 => ("AdjectiveCoupons$Told", "changedWords", "LAdjectiveCoupons$Row;", true)
  | 10 => ("AdjectiveCoupons$Told", "changedKinds", "LAdjectiveCoupons$Row;", true)
  | _ => ("AdjectiveCoupons$Told", "changeWeeks", "LAdjectiveCoupons$Row;", true)
def zT4 : u_T := fun k => match k with
  | 0 => ("AdjectiveCoupons$State", "week", "I", false)
  | 1 => ("AdjectiveCoupons$State", "halves", "LAdjectiveCoupons$Row;", true)
  | 2 => ("AdjectiveCoupons$State", "loaves", "LAdjectiveCoupons$Row;", true)
  | 3 => ("AdjectiveCoupons$State", "fines", "LAdjectiveCoupons$Row;", true)
  | 4 => ("AdjectiveCoupons$State", "worths", "LAdjectiveCoupons$Row;", true)
  | 5 => ("AdjectiveCoupons$State", "said", "LAdjectiveCoupons$Row;", true)
  | _ => ("AdjectiveCoupons$State", "debts", "LAdjectiveCoupons$Row;", true)
def zT5 : u_T := fun k => match k with
  | 0 => ("AdjectiveCoupons$Past", "undoable", "[LAdjectiveCoupons$State;", true)
  | 1 => ("AdjectiveCoupons$Past", "kept", "[LAdjectiveCoupons$State;", true)
  | 2 => ("AdjectiveCoupons$Past", "newest", "I", false)
  | 3 => ("AdjectiveCoupons$Past", "size", "I", false)
  | _ => ("AdjectiveCoupons$Past", "keptSet", "I", false)
def zT6 : u_T := fun k => match k with
  | 0 => ("AdjectiveCoupons$Line", "words", "LAdjectiveCoupons$Row;", true)
  | _ => ("AdjectiveCoupons$Line", "length", "I", false)
def zT7 : u_T := fun k => match k with
  | 0 => ("AdjectiveCoupons$Prices", "kinds", "LAdjectiveCoupons$Row;", true)
  | _ => ("AdjectiveCoupons$Prices", "rules", "I", false)
def zT8 : u_T := fun k => match k with
  | 0 => ("AdjectiveCoupons$Drafts", "lines", "[LAdjectiveCoupons$Line;", true)
  | 1 => ("AdjectiveCoupons$Drafts", "blank", "LAdjectiveCoupons$Line;", true)
  | 2 => ("AdjectiveCoupons$Drafts", "dues", "LAdjectiveCoupons$Row;", true)
  | 3 => ("AdjectiveCoupons$Drafts", "worths", "LAdjectiveCoupons$Row;", true)
  | 4 => ("AdjectiveCoupons$Drafts", "size", "I", false)
  | 5 => ("AdjectiveCoupons$Drafts", "mostWorth", "I", false)
  | _ => ("AdjectiveCoupons$Drafts", "chosen", "I", false)
def zT9 : u_T := fun k => match k with
  | 0 => ("AdjectiveCoupons$Trials", "trial", "LAdjectiveCoupons$Line;", true)
  | 1 => ("AdjectiveCoupons$Trials", "best", "LAdjectiveCoupons$Line;", true)
  | 2 => ("AdjectiveCoupons$Trials", "groups", "LAdjectiveCoupons$Row;", true)
  | 3 => ("AdjectiveCoupons$Trials", "least", "I", false)
  | 4 => ("AdjectiveCoupons$Trials", "most", "I", false)
  | 5 => ("AdjectiveCoupons$Trials", "set", "I", false)
  | _ => ("AdjectiveCoupons$Trials", "ways", "I", false)
def zT10 : u_T := fun k => match k with
  | 0 => ("AdjectiveCouponsModel", "row", "[I", true)
  | 1 => ("AdjectiveCouponsModel", "pastMany", "I", false)
  | 2 => ("AdjectiveCouponsModel", "isKept", "[Z", true)
  | 3 => ("AdjectiveCouponsModel", "text", "[I", true)
  | 4 => ("AdjectiveCouponsModel", "length", "I", false)
  | 5 => ("AdjectiveCouponsModel", "read", "[I", true)
  | 6 => ("AdjectiveCouponsModel", "readMany", "I", false)
  | 7 => ("AdjectiveCouponsModel", "kinds", "[I", true)
  | 8 => ("AdjectiveCouponsModel", "worths", "[I", true)
  | 9 => ("AdjectiveCouponsModel", "words", "I", false)
  | 10 => ("AdjectiveCouponsModel", "changes", "[I", true)
  | 11 => ("AdjectiveCouponsModel", "changeMany", "I", false)
  | 12 => ("AdjectiveCouponsModel", "folk", "[I", true)
  | 13 => ("AdjectiveCouponsModel", "wants", "[I", true)
  | 14 => ("AdjectiveCouponsModel", "people", "I", false)
  | 15 => ("AdjectiveCouponsModel", "ration", "I", false)
  | 16 => ("AdjectiveCouponsModel", "law", "I", false)
  | 17 => ("AdjectiveCouponsModel", "line", "[I", true)
  | 18 => ("AdjectiveCouponsModel", "lineMany", "I", false)
  | 19 => ("AdjectiveCouponsModel", "drafts", "[I", true)
  | 20 => ("AdjectiveCouponsModel", "draftLengths", "[I", true)
  | 21 => ("AdjectiveCouponsModel", "draftMany", "I", false)
  | 22 => ("AdjectiveCouponsModel", "at", "I", false)
  | 23 => ("AdjectiveCouponsModel", "place", "I", false)
  | 24 => ("AdjectiveCouponsModel", "end", "I", false)
  | 25 => ("AdjectiveCouponsModel", "readWords", "I", false)
  | 26 => ("AdjectiveCouponsModel", "readChanges", "I", false)
  | 27 => ("AdjectiveCouponsModel", "readPeople", "I", false)
  | 28 => ("AdjectiveCouponsModel", "tried", "[I", true)
  | 29 => ("AdjectiveCouponsModel", "triedMany", "I", false)
  | 30 => ("AdjectiveCouponsModel", "triedKinds", "[I", true)
  | 31 => ("AdjectiveCouponsModel", "best", "[I", true)
  | 32 => ("AdjectiveCouponsModel", "least", "I", false)
  | 33 => ("AdjectiveCouponsModel", "most", "I", false)
  | _ => ("AdjectiveCouponsModel", "groups", "[I", true)
def zcl : List vw_C := [("AdjectiveCoupons", zT0, 9), ("AdjectiveCoupons$Text", zT1, 5), ("AdjectiveCoupons$Row", zT2, 1), ("AdjectiveCoupons$Told", zT3, 12), ("AdjectiveCoupons$State", zT4, 7), ("AdjectiveCoupons$Past", zT5, 5), ("AdjectiveCoupons$Line", zT6, 2), ("AdjectiveCoupons$Prices", zT7, 2), ("AdjectiveCoupons$Drafts", zT8, 7), ("AdjectiveCoupons$Trials", zT9, 7), ("AdjectiveCouponsModel", zT10, 35)]
abbrev zPM : Type := MethodName × ByteArray × Nat × Option FieldType × Nat
def zpms_1 : List zPM := [
  (⟨"AdjectiveCoupons", "<init>", "()V"⟩, prog_1_method_1_code, 1, (Option.none : Option Jvm.ClassFile.FieldType), 0),
  (⟨"java/lang/Object", "<init>", "()V"⟩, object_method_1_code, 1, (Option.none : Option Jvm.ClassFile.FieldType), 99),
  (⟨"AdjectiveCoupons$Text", "<init>", "()V"⟩, prog_8_method_1_code, 1, (Option.none : Option Jvm.ClassFile.FieldType), 1),
  (⟨"AdjectiveCoupons$Row", "<init>", "(I)V"⟩, prog_6_method_1_code, 2, (Option.none : Option Jvm.ClassFile.FieldType), 2),
  (⟨"AdjectiveCoupons$Told", "<init>", "()V"⟩, prog_9_method_1_code, 1, (Option.none : Option Jvm.ClassFile.FieldType), 3),
  (⟨"AdjectiveCoupons$State", "<init>", "()V"⟩, prog_7_method_1_code, 1, (Option.none : Option Jvm.ClassFile.FieldType), 4),
  (⟨"AdjectiveCoupons$Past", "<init>", "()V"⟩, prog_4_method_1_code, 2, (Option.none : Option Jvm.ClassFile.FieldType), 5),
  (⟨"AdjectiveCoupons$Line", "<init>", "()V"⟩, prog_3_method_1_code, 1, (Option.none : Option Jvm.ClassFile.FieldType), 6),
  (⟨"AdjectiveCoupons$Prices", "<init>", "()V"⟩, prog_5_method_1_code, 1, (Option.none : Option Jvm.ClassFile.FieldType), 7),
  (⟨"AdjectiveCoupons$Drafts", "<init>", "()V"⟩, prog_2_method_1_code, 2, (Option.none : Option Jvm.ClassFile.FieldType), 8)]
def zpms_2 : List zPM := [
  (⟨"AdjectiveCoupons$Trials", "<init>", "()V"⟩, prog_10_method_1_code, 1, (Option.none : Option Jvm.ClassFile.FieldType), 9),
  (⟨"AdjectiveCoupons", "write", "(I)I"⟩, prog_1_method_2_code, 2, (Option.some Jvm.ClassFile.FieldType.int), 0),
  (⟨"AdjectiveCoupons", "isWithin", "(III)Z"⟩, prog_1_method_37_code, 3, (Option.some Jvm.ClassFile.FieldType.boolean), 0),
  (⟨"AdjectiveCoupons$Text", "append", "(I)Z"⟩, prog_8_method_2_code, 2, (Option.some Jvm.ClassFile.FieldType.boolean), 1),
  (⟨"AdjectiveCoupons$Row", "set", "(II)V"⟩, prog_6_method_3_code, 3, (Option.none : Option Jvm.ClassFile.FieldType), 2),
  (⟨"AdjectiveCoupons", "erase", "()I"⟩, prog_1_method_3_code, 2, (Option.some Jvm.ClassFile.FieldType.int), 0),
  (⟨"AdjectiveCoupons", "fault", "()I"⟩, prog_1_method_4_code, 1, (Option.some Jvm.ClassFile.FieldType.int), 0),
  (⟨"AdjectiveCoupons$Told", "become", "(LAdjectiveCoupons$Told;)V"⟩, prog_9_method_3_code, 2, (Option.none : Option Jvm.ClassFile.FieldType), 3),
  (⟨"AdjectiveCoupons$Row", "become", "(LAdjectiveCoupons$Row;)V"⟩, prog_6_method_6_code, 3, (Option.none : Option Jvm.ClassFile.FieldType), 2),
  (⟨"AdjectiveCoupons$Text", "read", "(LAdjectiveCoupons$Told;)I"⟩, prog_8_method_3_code, 2, (Option.some Jvm.ClassFile.FieldType.int), 1),
  (⟨"AdjectiveCoupons$Text", "step", "()V"⟩, prog_8_method_9_code, 2, (Option.none : Option Jvm.ClassFile.FieldType), 1),
  (⟨"AdjectiveCoupons$Row", "at", "(I)I"⟩, prog_6_method_2_code, 2, (Option.some Jvm.ClassFile.FieldType.int), 2),
  (⟨"AdjectiveCoupons$Text", "sortOf", "(I)I"⟩, prog_8_method_10_code, 1, (Option.some Jvm.ClassFile.FieldType.int), 1),
  (⟨"AdjectiveCoupons$Text", "readClause", "(LAdjectiveCoupons$Told;)Z"⟩, prog_8_method_4_code, 5, (Option.some Jvm.ClassFile.FieldType.boolean), 1),
  (⟨"AdjectiveCoupons$Text", "clauseHere", "()I"⟩, prog_8_method_7_code, 7, (Option.some Jvm.ClassFile.FieldType.int), 1),
  (⟨"java/lang/String", "length", "()I"⟩, prog_15_method_54_code, 1, (Option.some Jvm.ClassFile.FieldType.int), 99),
  (⟨"java/lang/String", "coder", "()B"⟩, prog_15_method_152_code, 1, (Option.some Jvm.ClassFile.FieldType.byte), 99),
  (⟨"java/lang/String", "charAt", "(I)C"⟩, prog_15_method_56_code, 2, (Option.some Jvm.ClassFile.FieldType.char), 99),
  (⟨"java/lang/String", "isLatin1", "()Z"⟩, prog_15_method_154_code, 1, (Option.some Jvm.ClassFile.FieldType.boolean), 99),
  (⟨"java/lang/StringLatin1", "charAt", "([BI)C"⟩, prog_16_method_2_code, 2, (Option.some Jvm.ClassFile.FieldType.char), 99),
  (⟨"java/lang/String", "checkIndex", "(II)V"⟩, prog_15_method_155_code, 2, (Option.none : Option Jvm.ClassFile.FieldType), 99),
  (⟨"jdk/internal/util/Preconditions", "checkIndex", "(IILjava/util/function/BiFunction;)I"⟩, prog_18_method_11_code, 3, (Option.some Jvm.ClassFile.FieldType.int), 99),
  (⟨"java/lang/StringUTF16", "charAt", "([BI)C"⟩, prog_17_method_83_code, 2, (Option.some Jvm.ClassFile.FieldType.char), 99),
  (⟨"java/lang/StringUTF16", "checkIndex", "(I[B)V"⟩, prog_17_method_91_code, 2, (Option.none : Option Jvm.ClassFile.FieldType), 99),
  (⟨"java/lang/StringUTF16", "length", "([B)I"⟩, prog_17_method_6_code, 1, (Option.some Jvm.ClassFile.FieldType.int), 99),
  (⟨"java/lang/StringUTF16", "getChar", "([BI)C"⟩, prog_17_method_5_code, 2, (Option.some Jvm.ClassFile.FieldType.char), 99),
  (⟨"AdjectiveCoupons$Told", "hasRoomFor", "(I)Z"⟩, prog_9_method_4_code, 2, (Option.some Jvm.ClassFile.FieldType.boolean), 3),
  (⟨"AdjectiveCoupons$Text", "readChange", "(LAdjectiveCoupons$Told;)Z"⟩, prog_8_method_5_code, 5, (Option.some Jvm.ClassFile.FieldType.boolean), 1),
  (⟨"AdjectiveCoupons$Text", "numberHere", "(I)I"⟩, prog_8_method_8_code, 4, (Option.some Jvm.ClassFile.FieldType.int), 1),
  (⟨"AdjectiveCoupons$Told", "hearChange", "(III)V"⟩, prog_9_method_6_code, 4, (Option.none : Option Jvm.ClassFile.FieldType), 3),
  (⟨"AdjectiveCoupons$Text", "mostIn", "(I)I"⟩, prog_8_method_6_code, 1, (Option.some Jvm.ClassFile.FieldType.int), 1),
  (⟨"AdjectiveCoupons$Told", "hear", "(II)V"⟩, prog_9_method_5_code, 3, (Option.none : Option Jvm.ClassFile.FieldType), 3),
  (⟨"AdjectiveCoupons$Told", "forgetAll", "()V"⟩, prog_9_method_2_code, 1, (Option.none : Option Jvm.ClassFile.FieldType), 3),
  (⟨"AdjectiveCoupons", "realm", "()I"⟩, prog_1_method_5_code, 1, (Option.some Jvm.ClassFile.FieldType.int), 0),
  (⟨"AdjectiveCoupons$State", "begin", "(II)V"⟩, prog_7_method_2_code, 4, (Option.none : Option Jvm.ClassFile.FieldType), 4),
  (⟨"AdjectiveCoupons$Row", "clear", "()V"⟩, prog_6_method_5_code, 2, (Option.none : Option Jvm.ClassFile.FieldType), 2),
  (⟨"AdjectiveCoupons$Past", "forgetAll", "()V"⟩, prog_4_method_2_code, 1, (Option.none : Option Jvm.ClassFile.FieldType), 5),
  (⟨"AdjectiveCoupons", "word", "(II)I"⟩, prog_1_method_6_code, 3, (Option.some Jvm.ClassFile.FieldType.int), 0),
  (⟨"AdjectiveCoupons", "isWord", "(I)Z"⟩, prog_1_method_42_code, 2, (Option.some Jvm.ClassFile.FieldType.boolean), 0),
  (⟨"AdjectiveCoupons$Told", "kindIn", "(II)I"⟩, prog_9_method_8_code, 7, (Option.some Jvm.ClassFile.FieldType.int), 3)]
def zpms_3 : List zPM := [
  (⟨"AdjectiveCoupons$State", "timesSaidByAll", "(I)I"⟩, prog_7_method_7_code, 4, (Option.some Jvm.ClassFile.FieldType.int), 4),
  (⟨"AdjectiveCoupons$State", "timesSaid", "(II)I"⟩, prog_7_method_5_code, 3, (Option.some Jvm.ClassFile.FieldType.int), 4),
  (⟨"AdjectiveCoupons", "one", "(II)I"⟩, prog_1_method_7_code, 3, (Option.some Jvm.ClassFile.FieldType.int), 0),
  (⟨"AdjectiveCoupons", "isPerson", "(I)Z"⟩, prog_1_method_43_code, 2, (Option.some Jvm.ClassFile.FieldType.boolean), 0),
  (⟨"AdjectiveCoupons$Told", "kindOfOne", "(I)I"⟩, prog_9_method_7_code, 2, (Option.some Jvm.ClassFile.FieldType.int), 3),
  (⟨"AdjectiveCoupons$State", "wordsSaid", "(I)I"⟩, prog_7_method_6_code, 4, (Option.some Jvm.ClassFile.FieldType.int), 4),
  (⟨"AdjectiveCoupons", "as", "(II)I"⟩, prog_1_method_8_code, 3, (Option.some Jvm.ClassFile.FieldType.int), 0),
  (⟨"AdjectiveCoupons", "isSuch", "(II)Z"⟩, prog_1_method_41_code, 2, (Option.some Jvm.ClassFile.FieldType.boolean), 0),
  (⟨"AdjectiveCoupons", "priceFor", "(II)I"⟩, prog_1_method_45_code, 3, (Option.some Jvm.ClassFile.FieldType.int), 0),
  (⟨"AdjectiveCoupons$Prices", "lookUp", "(LAdjectiveCoupons$Told;I)V"⟩, prog_5_method_2_code, 4, (Option.none : Option Jvm.ClassFile.FieldType), 7),
  (⟨"AdjectiveCoupons$Prices", "priceOf", "(LAdjectiveCoupons$Line;I)I"⟩, prog_5_method_5_code, 12, (Option.some Jvm.ClassFile.FieldType.int), 7),
  (⟨"AdjectiveCoupons$Prices", "kindAt", "(LAdjectiveCoupons$Line;I)I"⟩, prog_5_method_3_code, 4, (Option.some Jvm.ClassFile.FieldType.int), 7),
  (⟨"AdjectiveCoupons$Line", "wordAt", "(I)I"⟩, prog_3_method_4_code, 2, (Option.some Jvm.ClassFile.FieldType.int), 6),
  (⟨"AdjectiveCoupons", "isAdjective", "(I)Z"⟩, prog_1_method_38_code, 1, (Option.some Jvm.ClassFile.FieldType.boolean), 0),
  (⟨"AdjectiveCoupons", "isIn", "(II)Z"⟩, prog_1_method_39_code, 2, (Option.some Jvm.ClassFile.FieldType.boolean), 0),
  (⟨"AdjectiveCoupons$Prices", "isFree", "(IZ)Z"⟩, prog_5_method_6_code, 3, (Option.some Jvm.ClassFile.FieldType.boolean), 7),
  (⟨"AdjectiveCoupons$Prices", "priceOfOne", "(II)I"⟩, prog_5_method_7_code, 4, (Option.some Jvm.ClassFile.FieldType.int), 7),
  (⟨"AdjectiveCoupons$Prices", "letOff", "(IZI)I"⟩, prog_5_method_8_code, 3, (Option.some Jvm.ClassFile.FieldType.int), 7),
  (⟨"AdjectiveCoupons", "put", "(I)I"⟩, prog_1_method_9_code, 2, (Option.some Jvm.ClassFile.FieldType.int), 0),
  (⟨"AdjectiveCoupons$Line", "append", "(I)Z"⟩, prog_3_method_2_code, 2, (Option.some Jvm.ClassFile.FieldType.boolean), 6),
  (⟨"AdjectiveCoupons", "wipe", "()I"⟩, prog_1_method_10_code, 2, (Option.some Jvm.ClassFile.FieldType.int), 0),
  (⟨"AdjectiveCoupons", "line", "(I)I"⟩, prog_1_method_11_code, 2, (Option.some Jvm.ClassFile.FieldType.int), 0),
  (⟨"AdjectiveCoupons", "cost", "(II)I"⟩, prog_1_method_12_code, 3, (Option.some Jvm.ClassFile.FieldType.int), 0),
  (⟨"AdjectiveCoupons", "good", "()I"⟩, prog_1_method_13_code, 1, (Option.some Jvm.ClassFile.FieldType.int), 0),
  (⟨"AdjectiveCoupons$Prices", "isGood", "(LAdjectiveCoupons$Line;)Z"⟩, prog_5_method_4_code, 5, (Option.some Jvm.ClassFile.FieldType.boolean), 7),
  (⟨"AdjectiveCoupons", "say", "(I)I"⟩, prog_1_method_14_code, 3, (Option.some Jvm.ClassFile.FieldType.int), 0),
  (⟨"AdjectiveCoupons$Line", "isSayable", "()Z"⟩, prog_3_method_8_code, 1, (Option.some Jvm.ClassFile.FieldType.boolean), 6),
  (⟨"AdjectiveCoupons$Line", "holeCount", "()I"⟩, prog_3_method_6_code, 3, (Option.some Jvm.ClassFile.FieldType.int), 6),
  (⟨"AdjectiveCoupons$Past", "remember", "(LAdjectiveCoupons$State;)V"⟩, prog_4_method_3_code, 3, (Option.none : Option Jvm.ClassFile.FieldType), 5),
  (⟨"AdjectiveCoupons$Past", "pick", "([LAdjectiveCoupons$State;I)LAdjectiveCoupons$State;"⟩, prog_4_method_7_code, 2, (Option.some (Jvm.ClassFile.FieldType.object "AdjectiveCoupons$State")), 5),
  (⟨"AdjectiveCoupons$State", "become", "(LAdjectiveCoupons$State;)V"⟩, prog_7_method_3_code, 2, (Option.none : Option Jvm.ClassFile.FieldType), 4),
  (⟨"java/lang/Math", "min", "(II)I"⟩, prog_14_method_69_code, 2, (Option.some Jvm.ClassFile.FieldType.int), 99),
  (⟨"AdjectiveCoupons$Row", "add", "(II)V"⟩, prog_6_method_4_code, 3, (Option.none : Option Jvm.ClassFile.FieldType), 2),
  (⟨"AdjectiveCoupons$Told", "worthOf", "(LAdjectiveCoupons$Line;)I"⟩, prog_9_method_9_code, 5, (Option.some Jvm.ClassFile.FieldType.int), 3),
  (⟨"AdjectiveCoupons$State", "noteSaid", "(ILAdjectiveCoupons$Line;)V"⟩, prog_7_method_4_code, 4, (Option.none : Option Jvm.ClassFile.FieldType), 4),
  (⟨"AdjectiveCoupons", "week", "()I"⟩, prog_1_method_15_code, 2, (Option.some Jvm.ClassFile.FieldType.int), 0),
  (⟨"AdjectiveCoupons", "halvesNextWeek", "(III)I"⟩, prog_1_method_40_code, 4, (Option.some Jvm.ClassFile.FieldType.int), 0),
  (⟨"AdjectiveCoupons", "trade", "(IIII)I"⟩, prog_1_method_16_code, 5, (Option.some Jvm.ClassFile.FieldType.int), 0),
  (⟨"AdjectiveCoupons", "areTwo", "(II)Z"⟩, prog_1_method_44_code, 3, (Option.some Jvm.ClassFile.FieldType.boolean), 0),
  (⟨"AdjectiveCoupons", "owe", "(III)I"⟩, prog_1_method_17_code, 5, (Option.some Jvm.ClassFile.FieldType.int), 0),
  (⟨"AdjectiveCoupons$State", "debt", "(II)I"⟩, prog_7_method_8_code, 3, (Option.some Jvm.ClassFile.FieldType.int), 4),
  (⟨"AdjectiveCoupons$State", "setDebt", "(III)V"⟩, prog_7_method_9_code, 4, (Option.none : Option Jvm.ClassFile.FieldType), 4),
  (⟨"AdjectiveCoupons", "owes", "(II)I"⟩, prog_1_method_18_code, 3, (Option.some Jvm.ClassFile.FieldType.int), 0),
  (⟨"AdjectiveCoupons", "undo", "()I"⟩, prog_1_method_19_code, 1, (Option.some Jvm.ClassFile.FieldType.int), 0),
  (⟨"AdjectiveCoupons$Past", "recall", "(LAdjectiveCoupons$State;)Z"⟩, prog_4_method_4_code, 3, (Option.some Jvm.ClassFile.FieldType.boolean), 5),
  (⟨"AdjectiveCoupons", "keep", "(I)I"⟩, prog_1_method_20_code, 2, (Option.some Jvm.ClassFile.FieldType.int), 0),
  (⟨"AdjectiveCoupons$Past", "store", "(ILAdjectiveCoupons$State;)V"⟩, prog_4_method_5_code, 4, (Option.none : Option Jvm.ClassFile.FieldType), 5),
  (⟨"AdjectiveCoupons", "back", "(I)I"⟩, prog_1_method_21_code, 2, (Option.some Jvm.ClassFile.FieldType.int), 0),
  (⟨"AdjectiveCoupons$Past", "fetch", "(ILAdjectiveCoupons$State;)Z"⟩, prog_4_method_6_code, 4, (Option.some Jvm.ClassFile.FieldType.boolean), 5),
  (⟨"AdjectiveCoupons", "cheapest", "(I)I"⟩, prog_1_method_22_code, 2, (Option.some Jvm.ClassFile.FieldType.int), 0),
  (⟨"AdjectiveCoupons", "canBeOrdered", "()Z"⟩, prog_1_method_46_code, 1, (Option.some Jvm.ClassFile.FieldType.boolean), 0),
  (⟨"AdjectiveCoupons$Trials", "tryOrders", "(LAdjectiveCoupons$Line;LAdjectiveCoupons$Prices;)V"⟩, prog_10_method_2_code, 5, (Option.none : Option Jvm.ClassFile.FieldType), 9),
  (⟨"AdjectiveCoupons$Line", "become", "(LAdjectiveCoupons$Line;)V"⟩, prog_3_method_3_code, 2, (Option.none : Option Jvm.ClassFile.FieldType), 6),
  (⟨"AdjectiveCoupons$Line", "sort", "()V"⟩, prog_3_method_9_code, 3, (Option.none : Option Jvm.ClassFile.FieldType), 6),
  (⟨"AdjectiveCoupons$Line", "swap", "(II)V"⟩, prog_3_method_11_code, 4, (Option.none : Option Jvm.ClassFile.FieldType), 6),
  (⟨"AdjectiveCoupons$Trials", "weigh", "(I)V"⟩, prog_10_method_3_code, 2, (Option.none : Option Jvm.ClassFile.FieldType), 9),
  (⟨"java/lang/Math", "max", "(II)I"⟩, prog_14_method_65_code, 2, (Option.some Jvm.ClassFile.FieldType.int), 99)]
def zpms_4 : List zPM := [
  (⟨"AdjectiveCoupons$Line", "nextOrder", "()Z"⟩, prog_3_method_10_code, 5, (Option.some Jvm.ClassFile.FieldType.boolean), 6),
  (⟨"AdjectiveCoupons", "loophole", "()I"⟩, prog_1_method_23_code, 1, (Option.some Jvm.ClassFile.FieldType.int), 0),
  (⟨"AdjectiveCoupons", "leftOut", "(II)I"⟩, prog_1_method_24_code, 3, (Option.some Jvm.ClassFile.FieldType.int), 0),
  (⟨"AdjectiveCoupons$Trials", "tryOmissions", "(LAdjectiveCoupons$Line;LAdjectiveCoupons$Prices;I)V"⟩, prog_10_method_4_code, 6, (Option.none : Option Jvm.ClassFile.FieldType), 9),
  (⟨"java/lang/Integer", "bitCount", "(I)I"⟩, prog_13_method_49_code, 1, (Option.some Jvm.ClassFile.FieldType.int), 12),
  (⟨"AdjectiveCoupons$Trials", "leaveOut", "(LAdjectiveCoupons$Line;I)Z"⟩, prog_10_method_5_code, 4, (Option.some Jvm.ClassFile.FieldType.boolean), 9),
  (⟨"AdjectiveCoupons", "holes", "(II)I"⟩, prog_1_method_25_code, 4, (Option.some Jvm.ClassFile.FieldType.int), 0),
  (⟨"AdjectiveCoupons$Trials", "tryFillings", "(LAdjectiveCoupons$Line;LAdjectiveCoupons$Prices;II)V"⟩, prog_10_method_6_code, 8, (Option.none : Option Jvm.ClassFile.FieldType), 9),
  (⟨"AdjectiveCoupons$Line", "placeOfHole", "(I)I"⟩, prog_3_method_7_code, 4, (Option.some Jvm.ClassFile.FieldType.int), 6),
  (⟨"AdjectiveCoupons$Line", "change", "(II)V"⟩, prog_3_method_5_code, 3, (Option.none : Option Jvm.ClassFile.FieldType), 6),
  (⟨"AdjectiveCoupons$Trials", "nextFilling", "(LAdjectiveCoupons$Line;II)Z"⟩, prog_10_method_7_code, 7, (Option.some Jvm.ClassFile.FieldType.boolean), 9),
  (⟨"AdjectiveCoupons", "draft", "()I"⟩, prog_1_method_26_code, 1, (Option.some Jvm.ClassFile.FieldType.int), 0),
  (⟨"AdjectiveCoupons$Drafts", "append", "(LAdjectiveCoupons$Line;)Z"⟩, prog_2_method_2_code, 2, (Option.some Jvm.ClassFile.FieldType.boolean), 8),
  (⟨"AdjectiveCoupons$Drafts", "at", "(I)LAdjectiveCoupons$Line;"⟩, prog_2_method_3_code, 3, (Option.some (Jvm.ClassFile.FieldType.object "AdjectiveCoupons$Line")), 8),
  (⟨"AdjectiveCoupons", "burn", "()I"⟩, prog_1_method_27_code, 2, (Option.some Jvm.ClassFile.FieldType.int), 0),
  (⟨"AdjectiveCoupons", "drafted", "(III)I"⟩, prog_1_method_28_code, 5, (Option.some Jvm.ClassFile.FieldType.int), 0),
  (⟨"AdjectiveCoupons", "page", "(II)I"⟩, prog_1_method_29_code, 3, (Option.some Jvm.ClassFile.FieldType.int), 0),
  (⟨"AdjectiveCoupons$Drafts", "weigh", "(LAdjectiveCoupons$Told;)V"⟩, prog_2_method_4_code, 3, (Option.none : Option Jvm.ClassFile.FieldType), 8),
  (⟨"AdjectiveCoupons$Drafts", "priceNow", "(LAdjectiveCoupons$Told;LAdjectiveCoupons$Prices;I)V"⟩, prog_2_method_5_code, 5, (Option.none : Option Jvm.ClassFile.FieldType), 8),
  (⟨"AdjectiveCoupons$Drafts", "choosePage", "(I)V"⟩, prog_2_method_7_code, 3, (Option.none : Option Jvm.ClassFile.FieldType), 8),
  (⟨"AdjectiveCoupons$Drafts", "sumOf", "(LAdjectiveCoupons$Row;I)I"⟩, prog_2_method_11_code, 5, (Option.some Jvm.ClassFile.FieldType.int), 8),
  (⟨"AdjectiveCoupons$Drafts", "offer", "(I)V"⟩, prog_2_method_10_code, 3, (Option.none : Option Jvm.ClassFile.FieldType), 8),
  (⟨"AdjectiveCoupons", "plan", "(II)I"⟩, prog_1_method_30_code, 3, (Option.some Jvm.ClassFile.FieldType.int), 0),
  (⟨"AdjectiveCoupons$Drafts", "priceWeekByWeek", "(LAdjectiveCoupons$Told;LAdjectiveCoupons$Prices;II)V"⟩, prog_2_method_6_code, 6, (Option.none : Option Jvm.ClassFile.FieldType), 8),
  (⟨"AdjectiveCoupons$Drafts", "choosePlan", "(III)V"⟩, prog_2_method_8_code, 5, (Option.none : Option Jvm.ClassFile.FieldType), 8),
  (⟨"AdjectiveCoupons$Drafts", "canPay", "(IIII)Z"⟩, prog_2_method_9_code, 7, (Option.some Jvm.ClassFile.FieldType.boolean), 8),
  (⟨"AdjectiveCoupons", "likeness", "(I)I"⟩, prog_1_method_31_code, 2, (Option.some Jvm.ClassFile.FieldType.int), 0),
  (⟨"AdjectiveCoupons", "likenessTo", "(I)I"⟩, prog_1_method_47_code, 6, (Option.some Jvm.ClassFile.FieldType.int), 0),
  (⟨"AdjectiveCoupons", "author", "()I"⟩, prog_1_method_32_code, 5, (Option.some Jvm.ClassFile.FieldType.int), 0),
  (⟨"AdjectiveCoupons", "left", "(I)I"⟩, prog_1_method_33_code, 7, (Option.some Jvm.ClassFile.FieldType.int), 0),
  (⟨"AdjectiveCoupons", "isTradeLeft", "(II)Z"⟩, prog_1_method_48_code, 4, (Option.some Jvm.ClassFile.FieldType.boolean), 0),
  (⟨"AdjectiveCoupons", "net", "(I)I"⟩, prog_1_method_34_code, 2, (Option.some Jvm.ClassFile.FieldType.int), 0),
  (⟨"AdjectiveCoupons$State", "balance", "(I)I"⟩, prog_7_method_10_code, 4, (Option.some Jvm.ClassFile.FieldType.int), 4),
  (⟨"AdjectiveCoupons", "payments", "()I"⟩, prog_1_method_35_code, 1, (Option.some Jvm.ClassFile.FieldType.int), 0),
  (⟨"AdjectiveCoupons$Trials", "fewestPayments", "(LAdjectiveCoupons$State;I)I"⟩, prog_10_method_8_code, 8, (Option.some Jvm.ClassFile.FieldType.int), 9),
  (⟨"AdjectiveCoupons", "count", "(I)I"⟩, prog_1_method_36_code, 2, (Option.some Jvm.ClassFile.FieldType.int), 0),
  (⟨"AdjectiveCoupons$Row", "sum", "()I"⟩, prog_6_method_7_code, 3, (Option.some Jvm.ClassFile.FieldType.int), 2),
  (⟨"AdjectiveCouponsModel", "<init>", "()V"⟩, prog_12_method_1_code, 1, (Option.none : Option Jvm.ClassFile.FieldType), 10)]
def zpms_5 : List zPM := [
  (⟨"AdjectiveCouponsModel", "write", "(I)I"⟩, prog_12_method_5_code, 2, (Option.some Jvm.ClassFile.FieldType.int), 10),
  (⟨"AdjectiveCouponsModel", "in", "(JJJ)Z"⟩, prog_12_method_2_code, 6, (Option.some Jvm.ClassFile.FieldType.boolean), 10),
  (⟨"AdjectiveCouponsModel", "erase", "()I"⟩, prog_12_method_6_code, 2, (Option.some Jvm.ClassFile.FieldType.int), 10),
  (⟨"AdjectiveCouponsModel", "fault", "()I"⟩, prog_12_method_18_code, 2, (Option.some Jvm.ClassFile.FieldType.int), 10),
  (⟨"AdjectiveCouponsModel", "token", "()V"⟩, prog_12_method_8_code, 1, (Option.none : Option Jvm.ClassFile.FieldType), 10),
  (⟨"AdjectiveCouponsModel", "sort", "(I)I"⟩, prog_12_method_7_code, 1, (Option.some Jvm.ClassFile.FieldType.int), 10),
  (⟨"AdjectiveCouponsModel", "readsClause", "()Z"⟩, prog_12_method_17_code, 2, (Option.some Jvm.ClassFile.FieldType.boolean), 10),
  (⟨"AdjectiveCouponsModel", "wordOf", "()I"⟩, prog_12_method_12_code, 2, (Option.some Jvm.ClassFile.FieldType.int), 10),
  (⟨"AdjectiveCouponsModel", "kindWord", "()I"⟩, prog_12_method_10_code, 1, (Option.some Jvm.ClassFile.FieldType.int), 10),
  (⟨"AdjectiveCouponsModel", "isWord", "(III)Z"⟩, prog_12_method_9_code, 6, (Option.some Jvm.ClassFile.FieldType.boolean), 10),
  (⟨"AdjectiveCouponsModel", "folkWord", "()I"⟩, prog_12_method_11_code, 1, (Option.some Jvm.ClassFile.FieldType.int), 10),
  (⟨"AdjectiveCouponsModel", "isKindWord", "(I)Z"⟩, prog_12_method_14_code, 1, (Option.some Jvm.ClassFile.FieldType.boolean), 10),
  (⟨"AdjectiveCouponsModel", "isFolkWord", "(I)Z"⟩, prog_12_method_15_code, 1, (Option.some Jvm.ClassFile.FieldType.boolean), 10),
  (⟨"AdjectiveCouponsModel", "readsRest", "(I)Z"⟩, prog_12_method_16_code, 2, (Option.some Jvm.ClassFile.FieldType.boolean), 10),
  (⟨"AdjectiveCouponsModel", "reads", "(III)Z"⟩, prog_12_method_13_code, 6, (Option.some Jvm.ClassFile.FieldType.boolean), 10),
  (⟨"AdjectiveCouponsModel", "realm", "()I"⟩, prog_12_method_24_code, 3, (Option.some Jvm.ClassFile.FieldType.int), 10),
  (⟨"AdjectiveCouponsModel", "tell", "(I)V"⟩, prog_12_method_23_code, 4, (Option.none : Option Jvm.ClassFile.FieldType), 10),
  (⟨"AdjectiveCouponsModel", "addWord", "(II)V"⟩, prog_12_method_20_code, 3, (Option.none : Option Jvm.ClassFile.FieldType), 10),
  (⟨"AdjectiveCouponsModel", "addOne", "(II)V"⟩, prog_12_method_21_code, 3, (Option.none : Option Jvm.ClassFile.FieldType), 10),
  (⟨"AdjectiveCouponsModel", "addChange", "(I)V"⟩, prog_12_method_22_code, 3, (Option.none : Option Jvm.ClassFile.FieldType), 10),
  (⟨"AdjectiveCouponsModel", "clear", "()V"⟩, prog_12_method_19_code, 1, (Option.none : Option Jvm.ClassFile.FieldType), 10),
  (⟨"AdjectiveCouponsModel", "word", "(II)I"⟩, prog_12_method_39_code, 5, (Option.some Jvm.ClassFile.FieldType.int), 10),
  (⟨"AdjectiveCouponsModel", "isWordThere", "(I)Z"⟩, prog_12_method_25_code, 2, (Option.some Jvm.ClassFile.FieldType.boolean), 10),
  (⟨"AdjectiveCouponsModel", "kindIn", "(II)I"⟩, prog_12_method_27_code, 7, (Option.some Jvm.ClassFile.FieldType.int), 10),
  (⟨"AdjectiveCouponsModel", "one", "(II)I"⟩, prog_12_method_41_code, 3, (Option.some Jvm.ClassFile.FieldType.int), 10),
  (⟨"AdjectiveCouponsModel", "isOne", "(I)Z"⟩, prog_12_method_26_code, 2, (Option.some Jvm.ClassFile.FieldType.boolean), 10),
  (⟨"AdjectiveCouponsModel", "saidBy", "(I)I"⟩, prog_12_method_40_code, 4, (Option.some Jvm.ClassFile.FieldType.int), 10),
  (⟨"AdjectiveCouponsModel", "as", "(II)I"⟩, prog_12_method_42_code, 5, (Option.some Jvm.ClassFile.FieldType.int), 10),
  (⟨"AdjectiveCouponsModel", "layLine", "()V"⟩, prog_12_method_28_code, 2, (Option.none : Option Jvm.ClassFile.FieldType), 10),
  (⟨"AdjectiveCouponsModel", "costTo", "(II)I"⟩, prog_12_method_34_code, 9, (Option.some Jvm.ClassFile.FieldType.int), 10),
  (⟨"AdjectiveCouponsModel", "layKinds", "(I)V"⟩, prog_12_method_30_code, 3, (Option.none : Option Jvm.ClassFile.FieldType), 10),
  (⟨"AdjectiveCouponsModel", "costAt", "(I)I"⟩, prog_12_method_33_code, 4, (Option.some Jvm.ClassFile.FieldType.int), 10),
  (⟨"AdjectiveCouponsModel", "has", "(II)Z"⟩, prog_12_method_3_code, 2, (Option.some Jvm.ClassFile.FieldType.boolean), 10),
  (⟨"AdjectiveCouponsModel", "isAdjective", "(I)Z"⟩, prog_12_method_31_code, 2, (Option.some Jvm.ClassFile.FieldType.boolean), 10),
  (⟨"AdjectiveCouponsModel", "wasAhead", "(I)Z"⟩, prog_12_method_32_code, 4, (Option.some Jvm.ClassFile.FieldType.boolean), 10),
  (⟨"AdjectiveCouponsModel", "put", "(I)I"⟩, prog_12_method_43_code, 2, (Option.some Jvm.ClassFile.FieldType.int), 10),
  (⟨"AdjectiveCouponsModel", "wipe", "()I"⟩, prog_12_method_44_code, 2, (Option.some Jvm.ClassFile.FieldType.int), 10),
  (⟨"AdjectiveCouponsModel", "line", "(I)I"⟩, prog_12_method_45_code, 2, (Option.some Jvm.ClassFile.FieldType.int), 10),
  (⟨"AdjectiveCouponsModel", "cost", "(II)I"⟩, prog_12_method_46_code, 3, (Option.some Jvm.ClassFile.FieldType.int), 10),
  (⟨"AdjectiveCouponsModel", "good", "()I"⟩, prog_12_method_47_code, 1, (Option.some Jvm.ClassFile.FieldType.int), 10),
  (⟨"AdjectiveCouponsModel", "isGood", "()Z"⟩, prog_12_method_37_code, 3, (Option.some Jvm.ClassFile.FieldType.boolean), 10),
  (⟨"AdjectiveCouponsModel", "hasHole", "()Z"⟩, prog_12_method_36_code, 3, (Option.some Jvm.ClassFile.FieldType.boolean), 10),
  (⟨"AdjectiveCouponsModel", "say", "(I)I"⟩, prog_12_method_50_code, 4, (Option.some Jvm.ClassFile.FieldType.int), 10),
  (⟨"AdjectiveCouponsModel", "keepPast", "()V"⟩, prog_12_method_49_code, 2, (Option.none : Option Jvm.ClassFile.FieldType), 10),
  (⟨"AdjectiveCouponsModel", "copy", "(II)V"⟩, prog_12_method_48_code, 4, (Option.none : Option Jvm.ClassFile.FieldType), 10)]
def zpms_6 : List zPM := [
  (⟨"AdjectiveCouponsModel", "worthOf", "()I"⟩, prog_12_method_38_code, 3, (Option.some Jvm.ClassFile.FieldType.int), 10),
  (⟨"AdjectiveCouponsModel", "week", "()I"⟩, prog_12_method_52_code, 2, (Option.some Jvm.ClassFile.FieldType.int), 10),
  (⟨"AdjectiveCouponsModel", "rationed", "(II)I"⟩, prog_12_method_51_code, 4, (Option.some Jvm.ClassFile.FieldType.int), 10),
  (⟨"AdjectiveCouponsModel", "trade", "(IIII)I"⟩, prog_12_method_54_code, 5, (Option.some Jvm.ClassFile.FieldType.int), 10),
  (⟨"AdjectiveCouponsModel", "areTwo", "(II)Z"⟩, prog_12_method_53_code, 3, (Option.some Jvm.ClassFile.FieldType.boolean), 10),
  (⟨"AdjectiveCouponsModel", "owe", "(III)I"⟩, prog_12_method_55_code, 4, (Option.some Jvm.ClassFile.FieldType.int), 10),
  (⟨"AdjectiveCouponsModel", "owes", "(II)I"⟩, prog_12_method_56_code, 3, (Option.some Jvm.ClassFile.FieldType.int), 10),
  (⟨"AdjectiveCouponsModel", "undo", "()I"⟩, prog_12_method_57_code, 1, (Option.some Jvm.ClassFile.FieldType.int), 10),
  (⟨"AdjectiveCouponsModel", "keep", "(I)I"⟩, prog_12_method_58_code, 2, (Option.some Jvm.ClassFile.FieldType.int), 10),
  (⟨"AdjectiveCouponsModel", "back", "(I)I"⟩, prog_12_method_59_code, 2, (Option.some Jvm.ClassFile.FieldType.int), 10),
  (⟨"AdjectiveCouponsModel", "cheapest", "(I)I"⟩, prog_12_method_65_code, 2, (Option.some Jvm.ClassFile.FieldType.int), 10),
  (⟨"AdjectiveCouponsModel", "canBeOrdered", "()Z"⟩, prog_12_method_64_code, 1, (Option.some Jvm.ClassFile.FieldType.boolean), 10),
  (⟨"AdjectiveCouponsModel", "layOrders", "()V"⟩, prog_12_method_63_code, 5, (Option.none : Option Jvm.ClassFile.FieldType), 10),
  (⟨"AdjectiveCouponsModel", "factorial", "(I)I"⟩, prog_12_method_60_code, 3, (Option.some Jvm.ClassFile.FieldType.int), 10),
  (⟨"AdjectiveCouponsModel", "layOrder", "(I)V"⟩, prog_12_method_61_code, 8, (Option.none : Option Jvm.ClassFile.FieldType), 10),
  (⟨"AdjectiveCouponsModel", "citizenCost", "()I"⟩, prog_12_method_35_code, 1, (Option.some Jvm.ClassFile.FieldType.int), 10),
  (⟨"AdjectiveCouponsModel", "isAheadOfBest", "()Z"⟩, prog_12_method_62_code, 2, (Option.some Jvm.ClassFile.FieldType.boolean), 10),
  (⟨"AdjectiveCouponsModel", "loophole", "()I"⟩, prog_12_method_66_code, 1, (Option.some Jvm.ClassFile.FieldType.int), 10),
  (⟨"AdjectiveCouponsModel", "leftOut", "(II)I"⟩, prog_12_method_69_code, 5, (Option.some Jvm.ClassFile.FieldType.int), 10),
  (⟨"AdjectiveCouponsModel", "areWords", "(I)Z"⟩, prog_12_method_68_code, 4, (Option.some Jvm.ClassFile.FieldType.boolean), 10),
  (⟨"AdjectiveCouponsModel", "bits", "(I)I"⟩, prog_12_method_4_code, 3, (Option.some Jvm.ClassFile.FieldType.int), 10),
  (⟨"AdjectiveCouponsModel", "layWithout", "(I)V"⟩, prog_12_method_67_code, 3, (Option.none : Option Jvm.ClassFile.FieldType), 10),
  (⟨"AdjectiveCouponsModel", "holes", "(II)I"⟩, prog_12_method_71_code, 9, (Option.some Jvm.ClassFile.FieldType.int), 10),
  (⟨"AdjectiveCouponsModel", "layFilled", "(I)V"⟩, prog_12_method_70_code, 4, (Option.none : Option Jvm.ClassFile.FieldType), 10),
  (⟨"AdjectiveCouponsModel", "draft", "()I"⟩, prog_12_method_72_code, 2, (Option.some Jvm.ClassFile.FieldType.int), 10),
  (⟨"AdjectiveCouponsModel", "burn", "()I"⟩, prog_12_method_73_code, 2, (Option.some Jvm.ClassFile.FieldType.int), 10),
  (⟨"AdjectiveCouponsModel", "drafted", "(III)I"⟩, prog_12_method_74_code, 4, (Option.some Jvm.ClassFile.FieldType.int), 10),
  (⟨"AdjectiveCouponsModel", "layDraft", "(I)V"⟩, prog_12_method_29_code, 3, (Option.none : Option Jvm.ClassFile.FieldType), 10),
  (⟨"AdjectiveCouponsModel", "page", "(II)I"⟩, prog_12_method_76_code, 7, (Option.some Jvm.ClassFile.FieldType.int), 10),
  (⟨"AdjectiveCouponsModel", "worthOfSet", "(I)I"⟩, prog_12_method_75_code, 4, (Option.some Jvm.ClassFile.FieldType.int), 10),
  (⟨"AdjectiveCouponsModel", "plan", "(II)I"⟩, prog_12_method_78_code, 5, (Option.some Jvm.ClassFile.FieldType.int), 10),
  (⟨"AdjectiveCouponsModel", "canPay", "(II)Z"⟩, prog_12_method_77_code, 7, (Option.some Jvm.ClassFile.FieldType.boolean), 10),
  (⟨"AdjectiveCouponsModel", "likeness", "(I)I"⟩, prog_12_method_80_code, 2, (Option.some Jvm.ClassFile.FieldType.int), 10),
  (⟨"AdjectiveCouponsModel", "likenessOf", "(I)I"⟩, prog_12_method_79_code, 5, (Option.some Jvm.ClassFile.FieldType.int), 10),
  (⟨"AdjectiveCouponsModel", "author", "()I"⟩, prog_12_method_81_code, 4, (Option.some Jvm.ClassFile.FieldType.int), 10),
  (⟨"AdjectiveCouponsModel", "left", "(I)I"⟩, prog_12_method_82_code, 10, (Option.some Jvm.ClassFile.FieldType.int), 10),
  (⟨"AdjectiveCouponsModel", "net", "(I)I"⟩, prog_12_method_84_code, 2, (Option.some Jvm.ClassFile.FieldType.int), 10),
  (⟨"AdjectiveCouponsModel", "netOf", "(I)I"⟩, prog_12_method_83_code, 4, (Option.some Jvm.ClassFile.FieldType.int), 10),
  (⟨"AdjectiveCouponsModel", "payments", "()I"⟩, prog_12_method_86_code, 5, (Option.some Jvm.ClassFile.FieldType.int), 10),
  (⟨"AdjectiveCouponsModel", "netOfSet", "(I)I"⟩, prog_12_method_85_code, 4, (Option.some Jvm.ClassFile.FieldType.int), 10),
  (⟨"AdjectiveCouponsModel", "count", "(I)I"⟩, prog_12_method_87_code, 5, (Option.some Jvm.ClassFile.FieldType.int), 10)]
def zpms : List zPM := zpms_1 ++ (zpms_2 ++ (zpms_3 ++ (zpms_4 ++ (zpms_5 ++ zpms_6))))
/-- a field of the pool: the class at hand and its place there (one number), the class that has it, the slot; where the word stands, the host of a nest -/
def zfl : List (Nat × Nat × Nat × Nat × Option String) := [
  (2007, 2, 0, 104, none),
  (1014, 1, 0, 109, none),
  (1020, 1, 1, 110, none),
  (76, 1, 1, 111, some "AdjectiveCoupons"),
  (1034, 1, 2, 112, none),
  (105, 1, 2, 113, some "AdjectiveCoupons"),
  (1041, 1, 3, 114, none),
  (1028, 1, 4, 115, none),
  (3042, 3, 0, 135, none),
  (7027, 3, 0, 136, some "AdjectiveCoupons"),
  (1070, 3, 0, 137, some "AdjectiveCoupons"),
  (250, 3, 0, 138, some "AdjectiveCoupons"),
  (3045, 3, 1, 139, none),
  (88, 3, 1, 140, some "AdjectiveCoupons"),
  (3048, 3, 2, 141, none),
  (309, 3, 2, 142, some "AdjectiveCoupons"),
  (3009, 3, 3, 143, none),
  (91, 3, 3, 144, some "AdjectiveCoupons"),
  (7020, 3, 4, 145, some "AdjectiveCoupons"),
  (3051, 3, 4, 146, none),
  (312, 3, 4, 147, some "AdjectiveCoupons"),
  (3020, 3, 5, 148, none),
  (128, 3, 5, 149, some "AdjectiveCoupons"),
  (3024, 3, 6, 150, none),
  (118, 3, 6, 151, some "AdjectiveCoupons"),
  (3027, 3, 7, 152, none),
  (3030, 3, 8, 153, none),
  (153, 3, 8, 154, some "AdjectiveCoupons"),
  (3033, 3, 9, 155, none),
  (3036, 3, 10, 156, none),
  (3039, 3, 11, 157, none),
  (4035, 4, 0, 191, none),
  (111, 4, 0, 192, some "AdjectiveCoupons"),
  (4014, 4, 1, 193, none),
  (140, 4, 1, 194, some "AdjectiveCoupons"),
  (4020, 4, 2, 195, none),
  (143, 4, 2, 196, some "AdjectiveCoupons"),
  (4023, 4, 3, 197, none),
  (146, 4, 3, 198, some "AdjectiveCoupons"),
  (4026, 4, 4, 199, none),
  (149, 4, 4, 200, some "AdjectiveCoupons"),
  (4029, 4, 5, 201, none),
  (4032, 4, 6, 202, none),
  (5011, 5, 0, 227, none),
  (5017, 5, 1, 228, none),
  (5028, 5, 2, 229, none),
  (5021, 5, 3, 230, none),
  (215, 5, 3, 231, some "AdjectiveCoupons"),
  (5025, 5, 4, 232, none),
  (6014, 6, 0, 252, none),
  (6020, 6, 1, 253, none),
  (4050, 6, 1, 254, some "AdjectiveCoupons"),
  (7047, 6, 1, 255, some "AdjectiveCoupons"),
  (9070, 6, 1, 256, some "AdjectiveCoupons"),
  (101, 6, 1, 257, some "AdjectiveCoupons"),
  (3073, 6, 1, 258, some "AdjectiveCoupons"),
  (7014, 7, 0, 272, none),
  (7026, 7, 1, 273, none),
  (8011, 8, 0, 290, none),
  (8018, 8, 1, 291, none),
  (8027, 8, 2, 292, none),
  (8031, 8, 3, 293, none),
  (8034, 8, 4, 294, none),
  (102, 8, 4, 295, some "AdjectiveCoupons"),
  (8066, 8, 5, 296, none),
  (283, 8, 5, 297, some "AdjectiveCoupons"),
  (8069, 8, 6, 298, none),
  (286, 8, 6, 299, some "AdjectiveCoupons"),
  (9012, 9, 0, 325, none),
  (9018, 9, 1, 326, none),
  (234, 9, 1, 327, some "AdjectiveCoupons"),
  (9026, 9, 2, 328, none),
  (9030, 9, 3, 329, none),
  (231, 9, 3, 330, some "AdjectiveCoupons"),
  (9034, 9, 4, 331, none),
  (237, 9, 4, 332, some "AdjectiveCoupons"),
  (9067, 9, 5, 333, none),
  (244, 9, 5, 334, some "AdjectiveCoupons"),
  (9094, 9, 6, 335, none),
  (257, 9, 6, 336, some "AdjectiveCoupons"),
  (10, 0, 0, 352, none),
  (19, 0, 1, 353, none),
  (23, 0, 2, 354, none),
  (29, 0, 3, 355, none),
  (36, 0, 4, 356, none),
  (43, 0, 5, 357, none),
  (50, 0, 6, 358, none),
  (57, 0, 7, 359, none),
  (64, 0, 8, 360, none),
  (10007, 10, 0, 960, none),
  (10191, 10, 1, 961, none),
  (10013, 10, 2, 962, none),
  (10017, 10, 3, 963, none),
  (10069, 10, 4, 964, none),
  (10020, 10, 5, 965, none),
  (10112, 10, 6, 966, none),
  (10023, 10, 7, 967, none),
  (10026, 10, 8, 968, none),
  (10149, 10, 9, 969, none),
  (10029, 10, 10, 970, none),
  (10152, 10, 11, 971, none),
  (10032, 10, 12, 972, none),
  (10035, 10, 13, 973, none),
  (10155, 10, 14, 974, none),
  (10038, 10, 15, 975, none),
  (10162, 10, 16, 976, none),
  (10042, 10, 17, 977, none),
  (10185, 10, 18, 978, none),
  (10045, 10, 19, 979, none),
  (10048, 10, 20, 980, none),
  (10188, 10, 21, 981, none),
  (10072, 10, 22, 982, none),
  (10075, 10, 23, 983, none),
  (10082, 10, 24, 984, none),
  (10134, 10, 25, 985, none),
  (10143, 10, 26, 986, none),
  (10140, 10, 27, 987, none),
  (10051, 10, 28, 988, none),
  (10194, 10, 29, 989, none),
  (10054, 10, 30, 990, none),
  (10057, 10, 31, 991, none),
  (10266, 10, 32, 992, none),
  (10269, 10, 33, 993, none),
  (10060, 10, 34, 994, none)]
/-- a method of the pool: the class at hand and its place there, the method (1000: Object.<init>, 1001: Math.max, 1002: Math.min); where the words stand: the link, instance or static, selects; the host of a nest -/
def zml : List (Nat × Nat × Nat × Nat × Nat × Nat × Option String) := [
  (11009, 0, 2, 86, 87, 0, none),
  (1, 1000, 2, 89, 90, 0, none),
  (9, 2, 2, 94, 95, 0, some "AdjectiveCoupons"),
  (1003, 1000, 2, 97, 90, 0, none),
  (1011, 3, 2, 100, 101, 0, none),
  (2001, 1000, 2, 103, 90, 0, none),
  (18, 4, 2, 129, 130, 0, some "AdjectiveCoupons"),
  (3003, 1000, 2, 132, 90, 0, none),
  (3017, 3, 2, 134, 101, 0, none),
  (28, 5, 2, 185, 186, 0, some "AdjectiveCoupons"),
  (4003, 1000, 2, 188, 90, 0, none),
  (4011, 3, 2, 190, 101, 0, none),
  (35, 6, 2, 220, 221, 0, none),
  (5003, 1000, 2, 223, 90, 0, none),
  (5020, 5, 2, 226, 186, 0, some "AdjectiveCoupons"),
  (42, 7, 2, 246, 247, 0, some "AdjectiveCoupons"),
  (6003, 1000, 2, 249, 90, 0, none),
  (6011, 3, 2, 251, 101, 0, none),
  (49, 8, 2, 266, 267, 0, some "AdjectiveCoupons"),
  (7003, 1000, 2, 269, 90, 0, none),
  (7011, 3, 2, 271, 101, 0, none),
  (56, 9, 2, 281, 282, 0, none),
  (8003, 1000, 2, 284, 90, 0, none),
  (8017, 7, 2, 287, 247, 0, some "AdjectiveCoupons"),
  (8024, 3, 2, 289, 101, 0, none),
  (63, 10, 2, 317, 318, 0, some "AdjectiveCoupons"),
  (9003, 1000, 2, 320, 90, 0, none),
  (9011, 7, 2, 322, 247, 0, some "AdjectiveCoupons"),
  (9023, 3, 2, 324, 101, 0, none),
  (11013, 11, 1, 380, 381, 382, none),
  (68, 12, 0, 384, 385, 0, none),
  (72, 13, 1, 387, 388, 389, none),
  (1024, 14, 1, 391, 392, 393, none),
  (11018, 15, 1, 395, 396, 397, none),
  (11023, 16, 1, 399, 400, 401, none),
  (80, 17, 1, 403, 404, 405, none),
  (3054, 18, 1, 407, 408, 409, none),
  (84, 19, 1, 411, 412, 413, none),
  (1031, 20, 1, 415, 417, 0, none),
  (1044, 21, 1, 419, 420, 421, none),
  (1091, 22, 0, 423, 424, 0, none),
  (1077, 12, 0, 426, 385, 0, some "AdjectiveCoupons"),
  (1037, 23, 1, 427, 429, 1, none),
  (1048, 24, 1, 431, 433, 2, none),
  (1083, 25, 1, 436, 437, 438, none),
  (1087, 27, 1, 446, 447, 448, none),
  (1052, 36, 1, 484, 485, 486, none),
  (3058, 12, 0, 488, 385, 0, some "AdjectiveCoupons"),
  (1058, 37, 1, 489, 491, 3, none),
  (1064, 38, 1, 493, 495, 4, none),
  (1073, 39, 1, 497, 498, 499, none),
  (3065, 14, 1, 501, 392, 393, none),
  (1061, 40, 0, 502, 503, 0, none),
  (1067, 41, 1, 505, 506, 507, none),
  (3062, 42, 1, 509, 510, 511, none),
  (11027, 43, 1, 514, 515, 516, none),
  (94, 44, 1, 518, 519, 520, none),
  (4039, 45, 1, 522, 523, 524, none),
  (4042, 14, 1, 526, 392, 393, none),
  (98, 46, 1, 527, 528, 529, none),
  (11031, 47, 1, 531, 532, 533, none),
  (108, 48, 1, 535, 537, 5, none),
  (114, 49, 1, 539, 540, 541, none),
  (3069, 21, 1, 543, 420, 421, none),
  (122, 21, 1, 544, 420, 421, none),
  (131, 50, 1, 545, 546, 547, none),
  (4065, 51, 1, 549, 550, 551, none),
  (4062, 21, 1, 553, 420, 421, none),
  (11036, 52, 1, 554, 555, 556, none),
  (134, 53, 1, 558, 560, 6, none),
  (137, 54, 1, 562, 563, 564, none),
  (150, 55, 1, 566, 567, 568, none),
  (11040, 56, 1, 570, 571, 572, none),
  (156, 57, 0, 574, 575, 0, none),
  (160, 58, 1, 577, 579, 7, none),
  (167, 59, 1, 581, 582, 583, none),
  (7030, 49, 1, 585, 540, 541, none),
  (7034, 14, 1, 586, 392, 393, none),
  (268, 60, 1, 587, 588, 589, none),
  (7050, 61, 1, 591, 593, 8, none),
  (7038, 62, 1, 595, 596, 597, none),
  (6032, 21, 1, 599, 420, 421, none),
  (7044, 21, 1, 600, 420, 421, none),
  (7054, 63, 0, 601, 602, 0, some "AdjectiveCoupons"),
  (7058, 64, 0, 604, 605, 0, some "AdjectiveCoupons"),
  (7062, 65, 1, 607, 609, 9, none),
  (7066, 66, 1, 611, 613, 10, none),
  (7069, 67, 0, 615, 616, 0, none),
  (11044, 68, 1, 618, 619, 620, none),
  (163, 69, 1, 622, 623, 624, none),
  (6024, 14, 1, 626, 392, 393, none),
  (11048, 70, 1, 627, 628, 629, none),
  (11052, 71, 1, 631, 632, 633, none),
  (164, 62, 1, 635, 596, 597, none),
  (11056, 72, 1, 636, 637, 638, none),
  (11060, 73, 1, 640, 641, 642, none),
  (171, 74, 1, 644, 645, 646, none),
  (11064, 75, 1, 648, 649, 650, none),
  (175, 76, 1, 652, 653, 654, none),
  (6036, 77, 1, 656, 657, 658, none),
  (179, 78, 1, 660, 661, 662, none),
  (5031, 79, 0, 664, 665, 0, none),
  (5035, 80, 1, 667, 668, 669, none),
  (4046, 18, 1, 671, 408, 409, none),
  (5039, 1002, 0, 672, 673, 0, none),
  (183, 82, 1, 675, 676, 677, none),
  (2013, 21, 1, 679, 420, 421, none),
  (2017, 14, 1, 680, 392, 393, none),
  (186, 14, 1, 681, 392, 393, none),
  (189, 83, 1, 682, 683, 684, none),
  (3078, 62, 1, 686, 596, 597, none),
  (193, 84, 1, 687, 688, 689, none),
  (4055, 62, 1, 691, 596, 597, none),
  (4059, 82, 1, 692, 676, 677, none),
  (11068, 85, 1, 693, 694, 695, none),
  (197, 86, 0, 697, 698, 0, none),
  (318, 1002, 0, 700, 673, 0, none),
  (11072, 87, 1, 701, 702, 703, none),
  (201, 88, 1, 705, 707, 11, none),
  (11077, 89, 1, 709, 710, 711, none),
  (204, 90, 1, 713, 714, 715, none),
  (207, 91, 1, 717, 718, 719, none),
  (11082, 92, 1, 721, 722, 723, none),
  (11086, 93, 1, 725, 726, 727, none),
  (211, 94, 1, 729, 730, 731, none),
  (11090, 95, 1, 733, 734, 735, none),
  (216, 96, 1, 737, 738, 739, none),
  (11094, 97, 1, 741, 742, 743, none),
  (220, 98, 1, 745, 746, 747, none),
  (5045, 64, 0, 749, 605, 0, some "AdjectiveCoupons"),
  (11098, 99, 1, 750, 751, 752, none),
  (224, 100, 1, 754, 756, 12, none),
  (246, 77, 1, 758, 657, 658, none),
  (227, 101, 1, 759, 760, 761, none),
  (9037, 102, 1, 763, 764, 765, none),
  (6028, 18, 1, 767, 408, 409, none),
  (9041, 103, 1, 768, 769, 770, none),
  (6040, 104, 1, 772, 774, 13, none),
  (9044, 74, 1, 776, 645, 646, none),
  (9050, 60, 1, 777, 588, 589, none),
  (9054, 105, 1, 778, 780, 14, none),
  (9061, 1001, 0, 782, 783, 0, none),
  (9057, 107, 1, 785, 786, 787, none),
  (11102, 108, 1, 789, 790, 791, none),
  (11106, 109, 1, 793, 794, 795, none),
  (240, 110, 1, 797, 798, 799, none),
  (9073, 111, 0, 801, 802, 0, none),
  (9079, 112, 1, 807, 809, 15, none),
  (9083, 64, 0, 811, 605, 0, some "AdjectiveCoupons"),
  (9087, 62, 1, 812, 596, 597, none),
  (9090, 69, 1, 813, 623, 624, none),
  (11110, 113, 1, 814, 815, 816, none),
  (253, 114, 1, 818, 819, 820, none),
  (9097, 77, 1, 822, 657, 658, none),
  (9101, 115, 1, 823, 824, 825, none),
  (9104, 116, 1, 827, 828, 829, none),
  (9108, 117, 1, 831, 833, 16, none),
  (260, 115, 1, 835, 824, 825, none),
  (11114, 118, 1, 836, 837, 838, none),
  (263, 119, 1, 840, 841, 842, none),
  (8038, 120, 1, 844, 845, 846, none),
  (8042, 102, 1, 848, 764, 765, none),
  (11118, 121, 1, 849, 850, 851, none),
  (11122, 122, 1, 853, 854, 855, none),
  (265, 120, 1, 857, 845, 846, none),
  (11126, 123, 1, 858, 859, 860, none),
  (272, 124, 1, 862, 863, 864, none),
  (8046, 83, 1, 866, 683, 684, none),
  (8052, 14, 1, 867, 392, 393, none),
  (275, 125, 1, 868, 869, 870, none),
  (8056, 59, 1, 872, 582, 583, none),
  (8062, 60, 1, 873, 588, 589, none),
  (279, 126, 1, 874, 875, 876, none),
  (8072, 127, 1, 878, 880, 17, none),
  (8083, 64, 0, 882, 605, 0, some "AdjectiveCoupons"),
  (8087, 21, 1, 883, 420, 421, none),
  (8076, 128, 1, 884, 886, 18, none),
  (11130, 129, 1, 888, 889, 890, none),
  (289, 130, 1, 892, 893, 894, none),
  (293, 131, 1, 896, 897, 898, none),
  (8079, 132, 1, 900, 902, 19, none),
  (8090, 86, 0, 904, 698, 0, some "AdjectiveCoupons"),
  (11134, 133, 1, 905, 906, 907, none),
  (296, 134, 1, 909, 911, 20, none),
  (323, 51, 1, 913, 550, 551, none),
  (11138, 135, 1, 914, 915, 916, none),
  (11142, 136, 1, 918, 919, 920, none),
  (299, 137, 1, 922, 924, 21, none),
  (11146, 138, 1, 926, 927, 928, none),
  (302, 139, 1, 930, 931, 932, none),
  (4069, 90, 1, 934, 714, 715, none),
  (11150, 140, 1, 935, 936, 937, none),
  (305, 141, 1, 939, 940, 941, none),
  (9112, 139, 1, 943, 931, 932, none),
  (9117, 21, 1, 944, 420, 421, none),
  (9120, 14, 1, 945, 392, 393, none),
  (11154, 142, 1, 946, 947, 948, none),
  (315, 143, 1, 950, 951, 952, none),
  (11012, 144, 2, 956, 957, 0, none),
  (10001, 1000, 2, 959, 90, 0, none),
  (11017, 145, 1, 1067, 1068, 1069, none),
  (10065, 146, 0, 1072, 1073, 0, none),
  (11022, 147, 1, 1075, 1076, 1077, none),
  (11026, 148, 1, 1079, 1080, 1081, none),
  (10115, 149, 1, 1083, 1085, 22, none),
  (10078, 150, 0, 1087, 1088, 0, none),
  (10158, 151, 1, 1090, 1092, 23, none),
  (10137, 152, 1, 1094, 1096, 24, none),
  (10098, 153, 1, 1098, 1100, 25, none),
  (10086, 154, 1, 1103, 1105, 26, none),
  (10102, 155, 1, 1111, 1113, 27, none),
  (10124, 156, 0, 1126, 1127, 0, none),
  (10131, 157, 0, 1130, 1131, 0, none),
  (10146, 158, 1, 1135, 1137, 28, none),
  (10128, 159, 1, 1139, 1141, 29, none),
  (11030, 160, 1, 1143, 1144, 1145, none),
  (10179, 148, 1, 1147, 1080, 1081, none),
  (10182, 161, 1, 1148, 1150, 30, none),
  (10165, 162, 1, 1152, 1154, 31, none),
  (10169, 163, 1, 1156, 1158, 32, none),
  (10172, 164, 1, 1160, 1162, 33, none),
  (10176, 165, 1, 1164, 1166, 34, none),
  (11035, 166, 1, 1168, 1169, 1170, none),
  (10225, 167, 1, 1172, 1174, 35, none),
  (10197, 168, 1, 1176, 1178, 36, none),
  (11039, 169, 1, 1180, 1181, 1182, none),
  (10228, 170, 1, 1184, 1186, 37, none),
  (10231, 171, 1, 1188, 1190, 38, none),
  (11043, 172, 1, 1192, 1193, 1194, none),
  (10236, 173, 1, 1197, 1199, 39, none),
  (10219, 174, 1, 1201, 1203, 40, none),
  (10213, 175, 1, 1205, 1207, 41, none),
  (10216, 176, 1, 1209, 1211, 42, none),
  (10203, 177, 0, 1213, 1214, 0, none),
  (10207, 178, 1, 1216, 1218, 43, none),
  (10210, 179, 1, 1221, 1223, 44, none),
  (11047, 180, 1, 1225, 1226, 1227, none),
  (11051, 181, 1, 1229, 1230, 1231, none),
  (11055, 182, 1, 1233, 1234, 1235, none),
  (11059, 183, 1, 1237, 1238, 1239, none),
  (11063, 184, 1, 1242, 1243, 1244, none),
  (10241, 185, 1, 1246, 1248, 45, none),
  (10222, 186, 1, 1250, 1252, 46, none),
  (11067, 187, 1, 1254, 1255, 1256, none),
  (10247, 188, 1, 1258, 1260, 47, none),
  (10244, 189, 1, 1262, 1264, 48, none),
  (10250, 190, 1, 1266, 1268, 49, none),
  (11071, 191, 1, 1270, 1271, 1272, none),
  (10253, 192, 1, 1274, 1276, 50, none),
  (11076, 193, 1, 1278, 1279, 1280, none),
  (10256, 194, 1, 1282, 1284, 51, none),
  (11081, 195, 1, 1288, 1289, 1290, none),
  (11085, 196, 1, 1292, 1293, 1294, none),
  (11089, 197, 1, 1296, 1297, 1298, none),
  (11093, 198, 1, 1300, 1301, 1302, none),
  (11097, 199, 1, 1304, 1305, 1306, none),
  (11101, 200, 1, 1308, 1309, 1310, none),
  (10281, 201, 1, 1312, 1314, 52, none),
  (10284, 202, 1, 1316, 1318, 53, none),
  (10263, 203, 0, 1320, 1321, 0, none),
  (10272, 204, 1, 1323, 1325, 54, none),
  (10275, 205, 1, 1327, 1329, 55, none),
  (10278, 206, 1, 1331, 1333, 56, none),
  (11105, 207, 1, 1335, 1336, 1337, none),
  (11109, 208, 1, 1339, 1340, 1341, none),
  (10287, 209, 1, 1343, 1345, 57, none),
  (10290, 210, 0, 1347, 1348, 0, none),
  (10293, 211, 1, 1350, 1352, 58, none),
  (11113, 212, 1, 1354, 1355, 1356, none),
  (10296, 213, 1, 1358, 1360, 59, none),
  (11117, 214, 1, 1362, 1363, 1364, none),
  (11121, 215, 1, 1366, 1367, 1368, none),
  (11125, 216, 1, 1370, 1371, 1372, none),
  (10299, 217, 1, 1374, 1376, 60, none),
  (11129, 218, 1, 1378, 1379, 1380, none),
  (10302, 219, 1, 1382, 1384, 61, none),
  (11133, 220, 1, 1386, 1387, 1388, none),
  (10305, 221, 1, 1390, 1392, 62, none),
  (11137, 222, 1, 1394, 1395, 1396, none),
  (10308, 223, 1, 1398, 1400, 63, none),
  (11141, 224, 1, 1402, 1403, 1404, none),
  (11145, 225, 1, 1406, 1407, 1408, none),
  (11149, 226, 1, 1411, 1412, 1413, none),
  (10313, 227, 1, 1415, 1417, 64, none),
  (11153, 228, 1, 1419, 1420, 1421, none),
  (10316, 229, 1, 1423, 1425, 65, none),
  (11157, 230, 1, 1427, 1428, 1429, none)]
def zkl : List (Nat × Nat × Nat) := [
  (11007, 0, 84),
  (7, 1, 92),
  (1009, 2, 98),
  (16, 3, 127),
  (3015, 2, 133),
  (26, 4, 183),
  (4009, 2, 189),
  (33, 5, 218),
  (5009, 4, 224),
  (40, 6, 244),
  (6009, 2, 250),
  (47, 7, 264),
  (7009, 2, 270),
  (54, 8, 279),
  (8009, 6, 285),
  (8022, 2, 288),
  (61, 9, 315),
  (9009, 6, 321),
  (9021, 2, 323),
  (11010, 10, 954)]
def zil : List (Nat × Int32 × Nat) := [
  (12265, 1431655765, 804),
  (12266, 858993459, 805),
  (12267, 252645135, 806),
  (10085, 480750, 1102),
  (10090, 14976400, 1107),
  (10091, 626504163, 1108),
  (10092, 208936, 1109),
  (10093, 177198, 1110),
  (10094, 195350819, 1115),
  (10095, 19061228, 1116),
  (10096, 110765635, 1117),
  (10097, 660976, 1118),
  (10105, 14025906, 1119),
  (10106, 175572227, 1120),
  (10107, 485806130, 1121),
  (10108, 20100142, 1122),
  (10109, 5351156, 1123),
  (10110, 12982003, 1124),
  (10111, 143661, 1125)]
def zll : List (Nat × Int64 × Nat) := [
  (10063, 255, 1071),
  (10118, 5, 1129),
  (10120, 7, 1133),
  (10122, 10, 1134),
  (10234, 4, 1196),
  (10201, 3, 1220),
  (10239, 999, 1241),
  (10259, 60, 1286),
  (10261, 99, 1287),
  (10311, 2, 1410)]
def zna : List Nat := [0, 0, 0, 1, 0, 0, 0, 0, 0, 0, 0, 1, 3, 1, 2, 0, 0, 1, 1, 1, 0, 1, 1, 1, 0, 0, 0, 1, 0, 2, 2, 3, 2, 2, 1, 2, 1, 1, 1, 3, 1, 2, 0, 0, 2, 0, 0, 2, 1, 2, 1, 2, 2, 1, 1, 1, 2, 2, 2, 2, 2, 2, 1, 1, 2, 2, 2, 3, 1, 1, 0, 1, 2, 0, 1, 1, 0, 0, 1, 2, 1, 2, 2, 1, 2, 0, 3, 4, 2, 3, 2, 3, 2, 0, 1, 1, 2, 1, 2, 1, 0, 2, 1, 0, 2, 1, 2, 0, 0, 2, 3, 1, 2, 2, 4, 1, 2, 3, 0, 1, 1, 0, 3, 2, 1, 3, 1, 2, 1, 2, 4, 3, 4, 1, 1, 0, 1, 2, 1, 1, 0, 2, 1, 0, 0, 1, 3, 0, 0, 0, 1, 0, 0, 0, 3, 0, 1, 1, 1, 3, 0, 1, 2, 2, 1, 0, 2, 1, 2, 2, 1, 1, 2, 0, 2, 1, 1, 2, 1, 1, 1, 0, 1, 2, 0, 0, 0, 1, 0, 2, 0, 0, 2, 4, 2, 3, 2, 0, 1, 1, 1, 0, 0, 1, 1, 0, 0, 0, 2, 1, 1, 1, 2, 1, 0, 0, 3, 1, 2, 1, 2, 2, 1, 1, 0, 1, 1, 1, 0, 1, 1]
/-- where a method's code and its class's readiness stand -/
def zmp : List (Nat × Nat) := [(88, 67), (91, 0), (96, 68), (102, 69), (131, 70), (187, 71), (222, 72), (248, 73), (268, 74), (283, 75), (319, 76), (383, 67), (386, 67), (390, 68), (394, 69), (398, 67), (402, 67), (406, 70), (410, 69), (414, 68), (418, 68), (422, 69), (425, 68), (430, 68), (434, 68), (439, 78), (443, 78), (449, 78), (453, 78), (456, 79), (459, 78), (464, 80), (467, 81), (470, 81), (473, 81), (477, 81), (487, 70), (492, 68), (496, 68), (500, 70), (504, 68), (508, 70), (512, 70), (517, 67), (521, 71), (525, 69), (530, 72), (534, 67), (538, 67), (542, 70), (548, 71), (552, 71), (557, 67), (561, 67), (565, 70), (569, 71), (573, 67), (576, 67), (580, 67), (584, 74), (590, 74), (594, 74), (598, 73), (603, 67), (606, 67), (610, 74), (614, 74), (617, 74), (621, 67), (625, 73), (630, 67), (634, 67), (639, 67), (643, 67), (647, 74), (651, 67), (655, 73), (659, 73), (663, 72), (666, 72), (670, 71), (674, 82), (678, 69), (685, 70), (690, 71), (696, 67), (699, 67), (704, 67), (708, 67), (712, 67), (716, 71), (720, 71), (724, 67), (728, 67), (732, 72), (736, 67), (740, 72), (744, 67), (748, 72), (753, 67), (757, 67), (762, 76), (766, 73), (771, 73), (775, 73), (781, 76), (784, 82), (788, 73), (792, 67), (796, 67), (800, 76), (803, 83), (810, 76), (817, 67), (821, 76), (826, 73), (830, 73), (834, 76), (839, 67), (843, 75), (847, 75), (852, 67), (856, 67), (861, 67), (865, 75), (871, 75), (877, 75), (881, 75), (887, 75), (891, 67), (895, 75), (899, 75), (903, 75), (908, 67), (912, 67), (917, 67), (921, 67), (925, 67), (929, 67), (933, 71), (938, 67), (942, 76), (949, 67), (953, 69), (958, 77), (1070, 77), (1074, 77), (1078, 77), (1082, 77), (1086, 77), (1089, 77), (1093, 77), (1097, 77), (1101, 77), (1106, 77), (1114, 77), (1128, 77), (1132, 77), (1138, 77), (1142, 77), (1146, 77), (1151, 77), (1155, 77), (1159, 77), (1163, 77), (1167, 77), (1171, 77), (1175, 77), (1179, 77), (1183, 77), (1187, 77), (1191, 77), (1195, 77), (1200, 77), (1204, 77), (1208, 77), (1212, 77), (1215, 77), (1219, 77), (1224, 77), (1228, 77), (1232, 77), (1236, 77), (1240, 77), (1245, 77), (1249, 77), (1253, 77), (1257, 77), (1261, 77), (1265, 77), (1269, 77), (1273, 77), (1277, 77), (1281, 77), (1285, 77), (1291, 77), (1295, 77), (1299, 77), (1303, 77), (1307, 77), (1311, 77), (1315, 77), (1319, 77), (1322, 77), (1326, 77), (1330, 77), (1334, 77), (1338, 77), (1342, 77), (1346, 77), (1349, 77), (1353, 77), (1357, 77), (1361, 77), (1365, 77), (1369, 77), (1373, 77), (1377, 77), (1381, 77), (1385, 77), (1389, 77), (1393, 77), (1397, 77), (1401, 77), (1405, 77), (1409, 77), (1414, 77), (1418, 77), (1422, 77), (1426, 77), (1430, 77)]
/-- where an instance can be made, is ready; where its fields' words stand -/
def zkp : List (Nat × Nat × List Nat) := [(85, 67, [361, 363, 365, 367, 369, 371, 373, 375, 377]), (93, 68, [116, 118, 120, 122, 124]), (99, 69, [105]), (128, 70, [158, 160, 162, 164, 166, 168, 170, 172, 174, 176, 178, 180]), (184, 71, [203, 205, 207, 209, 211, 213, 215]), (219, 72, [233, 235, 237, 239, 241]), (245, 73, [259, 261]), (265, 74, [274, 276]), (280, 75, [300, 302, 304, 306, 308, 310, 312]), (316, 76, [337, 339, 341, 343, 345, 347, 349]), (955, 77, [995, 997, 999, 1001, 1003, 1005, 1007, 1009, 1011, 1013, 1015, 1017, 1019, 1021, 1023, 1025, 1027, 1029, 1031, 1033, 1035, 1037, 1039, 1041, 1043, 1045, 1047, 1049, 1051, 1053, 1055, 1057, 1059, 1061, 1063])]
end
section
-- ===== a small machine over worlds as lists: its cells (a class by its place in zcl, its fields; 20 int[], 21 boolean[], 22 State[], 23 Line[], its elements), references by a cell's place =====
abbrev zW : Type := List (Nat × List Value)
abbrev zL : Type := List (Option Value)
def zSCR : Nat := 1000001
def zSTR : Nat := 1000002
def zlim : Nat := 1000000
def zfx (oc ix : Nat) : Option (Nat × Nat) := if ix < 1000 then (zfl.find? (fun e => e.1 == oc * 1000 + ix)).map (fun e => (e.2.1, e.2.2.1)) else none
def zmx (oc ix : Nat) : Option (Nat × Nat) := if ix < 1000 then (zml.find? (fun e => e.1 == oc * 1000 + ix)).map (fun e => (e.2.1, e.2.2.1)) else none
def zkx (oc ix : Nat) : Option Nat := if ix < 1000 then (zkl.find? (fun e => e.1 == oc * 1000 + ix)).map (fun e => e.2.1) else none
def zix (oc ix : Nat) : Option Int32 := if ix < 1000 then (zil.find? (fun e => e.1 == oc * 1000 + ix)).map (fun e => e.2.1) else none
def zlx (oc ix : Nat) : Option Int64 := if ix < 1000 then (zll.find? (fun e => e.1 == oc * 1000 + ix)).map (fun e => e.2.1) else none
def zcat (st : List Value) : Nat := (st.map fun v => v.category).sum
def zo (o : Option Value) : Bool := match o with
  | some (.long _) => false
  | some (.double _) => false
  | _ => true
/-- no local of two slots -/
def znl (ls : zL) : Bool := ls.all zo
def zrv (v : Value) : Bool := match v with
  | .ref _ => true
  | .null => true
  | _ => false
def zdes (ci k : Nat) : String := match zcl[ci]? with
  | some q => (q.2.1 k).2.2.1
  | none => ""
def zfin (ci k : Nat) : Bool := match zcl[ci]? with
  | some q => (q.2.1 k).2.2.2
  | none => true
def znf (ci : Nat) : Nat := match zcl[ci]? with
  | some q => q.2.2
  | none => 0
def zdv (ci k : Nat) : Value := if zdes ci k = "I" then .int 0 else .null
def zblank (ci : Nat) : List Value := (List.range (znf ci)).map (zdv ci)
/-- what a field may take -/
def zfit (ci k : Nat) (v : Value) : Bool := if zdes ci k = "I" then (match v with
  | .int _ => true
  | _ => false) else zrv v
def zcond (c : Jvm.ClassFile.Cond) (x y : Int32) : Prop := match c with
  | .eq => x = y
  | .ne => ¬ x = y
  | .lt => x < y
  | .ge => y ≤ x
  | .gt => y < x
  | .le => x ≤ y
abbrev zMS : Type := Nat × zL × List Value × zW
abbrev zSR : Type := zMS ⊕ (Option Value ⊕ (Nat × List Value × List Value))
def zgo (pc : Nat) (ls : zL) (st : List Value) (w : zW) : zSR := .inl (pc, ls, st, w)
/-- the receiver of a call is of the method's class -/
def zrecv (w : zW) (o : Nat) (C : String) : Prop := (∃ (ci : Nat) (fs : List Value), w[o]? = some (ci, fs) ∧ ci < 11 ∧ zcn ci = C) ∨ (o = zSTR ∧ C = "java/lang/String")
def zacl (ci : Nat) : Nat := if ci = 4 then 22 else if ci = 6 then 23 else 99
/-- one instruction; a call, a return are told, not done. L, xs: the script -/
def zStep (L : Nat) (xs : Nat → Int32) (M : zPM) (i : Instr) (len pc : Nat) (ls : zL) (st : List Value) (w : zW) (sr : zSR) : Prop := match i with
  | .aconst_null => len = 1 ∧ sr = zgo (pc + 1) ls (.null :: st) w
  | .aload_n k => len = 1 ∧ ∃ v, ls[(k : Nat)]? = some (some v) ∧ zrv v = true ∧ sr = zgo (pc + 1) ls (v :: st) w
  | .aload k => len = 2 ∧ ∃ v, ls[k]? = some (some v) ∧ zrv v = true ∧ sr = zgo (pc + 2) ls (v :: st) w
  | .iload_n k => len = 1 ∧ ∃ x, ls[(k : Nat)]? = some (some (.int x)) ∧ sr = zgo (pc + 1) ls (.int x :: st) w
  | .iload k => len = 2 ∧ ∃ x, ls[k]? = some (some (.int x)) ∧ sr = zgo (pc + 2) ls (.int x :: st) w
  | .lload_n k => len = 1 ∧ ∃ x, ls[(k : Nat)]? = some (some (.long x)) ∧ sr = zgo (pc + 1) ls (.long x :: st) w
  | .lload k => len = 2 ∧ ∃ x, ls[k]? = some (some (.long x)) ∧ sr = zgo (pc + 2) ls (.long x :: st) w
  | .iconst n => len = 1 ∧ sr = zgo (pc + 1) ls (.int (Int32.ofInt n) :: st) w
  | .bipush n => len = 2 ∧ sr = zgo (pc + 2) ls (.int (Int8.ofInt n).toInt32 :: st) w
  | .sipush n => len = 3 ∧ sr = zgo (pc + 3) ls (.int (Int16.ofInt n).toInt32 :: st) w
  | .lconst n => len = 1 ∧ sr = zgo (pc + 1) ls (.long (Int64.ofNat (n : Nat)) :: st) w
  | .ldc ix => len = 2 ∧ ((∃ v, zix M.2.2.2.2 ix = some v ∧ sr = zgo (pc + 2) ls (.int v :: st) w) ∨ (M.2.2.2.2 = 1 ∧ ix = 81 ∧ sr = zgo (pc + 2) ls (.ref zSTR :: st) w))
  | .ldc_w ix => len = 3 ∧ ∃ v, zix M.2.2.2.2 ix = some v ∧ sr = zgo (pc + 3) ls (.int v :: st) w
  | .ldc2_w ix => len = 3 ∧ ∃ v, zlx M.2.2.2.2 ix = some v ∧ sr = zgo (pc + 3) ls (.long v :: st) w
  | .istore_n k => len = 1 ∧ ∃ x rest, st = .int x :: rest ∧ znl ls = true ∧ (k : Nat) < ls.length ∧ sr = zgo (pc + 1) (ls.set (k : Nat) (some (.int x))) rest w
  | .istore k => len = 2 ∧ ∃ x rest, st = .int x :: rest ∧ znl ls = true ∧ k < ls.length ∧ sr = zgo (pc + 2) (ls.set k (some (.int x))) rest w
  | .astore_n k => len = 1 ∧ ∃ v rest, st = v :: rest ∧ zrv v = true ∧ znl ls = true ∧ (k : Nat) < ls.length ∧ sr = zgo (pc + 1) (ls.set (k : Nat) (some v)) rest w
  | .astore k => len = 2 ∧ ∃ v rest, st = v :: rest ∧ zrv v = true ∧ znl ls = true ∧ k < ls.length ∧ sr = zgo (pc + 2) (ls.set k (some v)) rest w
  | .iinc k n => len = 3 ∧ ∃ x, ls[k]? = some (some (.int x)) ∧ znl ls = true ∧ sr = zgo (pc + 3) (ls.set k (some (.int (x + Int32.ofInt n)))) st w
  | .iadd => len = 1 ∧ ∃ x y rest, st = .int y :: .int x :: rest ∧ sr = zgo (pc + 1) ls (.int (x + y) :: rest) w
  | .isub => len = 1 ∧ ∃ x y rest, st = .int y :: .int x :: rest ∧ sr = zgo (pc + 1) ls (.int (x - y) :: rest) w
  | .imul => len = 1 ∧ ∃ x y rest, st = .int y :: .int x :: rest ∧ sr = zgo (pc + 1) ls (.int (x * y) :: rest) w
  | .idiv => len = 1 ∧ ∃ x y rest, st = .int y :: .int x :: rest ∧ ¬ y = 0 ∧ sr = zgo (pc + 1) ls (.int (x / y) :: rest) w
  | .irem => len = 1 ∧ ∃ x y rest, st = .int y :: .int x :: rest ∧ ¬ y = 0 ∧ sr = zgo (pc + 1) ls (.int (x - x / y * y) :: rest) w
  | .iand => len = 1 ∧ ∃ x y rest, st = .int y :: .int x :: rest ∧ sr = zgo (pc + 1) ls (.int (x &&& y) :: rest) w
  | .ior => len = 1 ∧ ∃ x y rest, st = .int y :: .int x :: rest ∧ sr = zgo (pc + 1) ls (.int (x ||| y) :: rest) w
  | .ixor => len = 1 ∧ ∃ x y rest, st = .int y :: .int x :: rest ∧ sr = zgo (pc + 1) ls (.int (x ^^^ y) :: rest) w
  | .ishl => len = 1 ∧ ∃ x y rest, st = .int y :: .int x :: rest ∧ sr = zgo (pc + 1) ls (.int (x <<< (y &&& 31)) :: rest) w
  | .ishr => len = 1 ∧ ∃ x y rest, st = .int y :: .int x :: rest ∧ sr = zgo (pc + 1) ls (.int (x >>> (y &&& 31)) :: rest) w
  | .iushr => len = 1 ∧ ∃ x y rest, st = .int y :: .int x :: rest ∧ sr = zgo (pc + 1) ls (.int (x.toUInt32 >>> (y.toUInt32 &&& Int32.toUInt32 31)).toInt32 :: rest) w
  | .ineg => len = 1 ∧ ∃ x rest, st = .int x :: rest ∧ sr = zgo (pc + 1) ls (.int (-x) :: rest) w
  | .i2l => len = 1 ∧ ∃ x rest, st = .int x :: rest ∧ sr = zgo (pc + 1) ls (.long x.toInt64 :: rest) w
  | .lcmp => len = 1 ∧ ∃ x y rest, st = .long y :: .long x :: rest ∧ sr = zgo (pc + 1) ls (.int (lg_cmp x y) :: rest) w
  | .dup => len = 1 ∧ ∃ v rest, st = v :: rest ∧ v.category = 1 ∧ sr = zgo (pc + 1) ls (v :: v :: rest) w
  | .dup2 => len = 1 ∧ ∃ v u rest, st = v :: u :: rest ∧ v.category = 1 ∧ u.category = 1 ∧ sr = zgo (pc + 1) ls (v :: u :: v :: u :: rest) w
  | .pop => len = 1 ∧ ∃ v rest, st = v :: rest ∧ v.category = 1 ∧ sr = zgo (pc + 1) ls rest w
  | .ifCond c off => len = 3 ∧ ∃ x rest, ∃ tgt : Nat, st = .int x :: rest ∧ (pc : Int) + off = (tgt : Int) ∧ ((zcond c x 0 ∧ sr = zgo tgt ls rest w) ∨ (¬ zcond c x 0 ∧ sr = zgo (pc + 3) ls rest w))
  | .if_icmp c off => len = 3 ∧ ∃ x y rest, ∃ tgt : Nat, st = .int y :: .int x :: rest ∧ (pc : Int) + off = (tgt : Int) ∧ ((zcond c x y ∧ sr = zgo tgt ls rest w) ∨ (¬ zcond c x y ∧ sr = zgo (pc + 3) ls rest w))
  | .ifnull off => len = 3 ∧ ((∃ rest, ∃ tgt : Nat, st = .null :: rest ∧ (pc : Int) + off = (tgt : Int) ∧ sr = zgo tgt ls rest w) ∨ (∃ a rest, st = .ref a :: rest ∧ sr = zgo (pc + 3) ls rest w))
  | .ifnonnull off => len = 3 ∧ ((∃ a rest, ∃ tgt : Nat, st = .ref a :: rest ∧ (pc : Int) + off = (tgt : Int) ∧ sr = zgo tgt ls rest w) ∨ (∃ rest, st = .null :: rest ∧ sr = zgo (pc + 3) ls rest w))
  | .goto off => len = 3 ∧ ∃ tgt : Nat, (pc : Int) + off = (tgt : Int) ∧ sr = zgo tgt ls st w
  | .tableswitch d lo hi offs => ∃ x rest, ∃ tgt : Nat, st = .int x :: rest ∧ (((x.toInt < lo ∨ hi < x.toInt) ∧ (pc : Int) + d = (tgt : Int)) ∨ (¬ x.toInt < lo ∧ ¬ hi < x.toInt ∧ ∃ off, offs[(x.toInt - lo).toNat]? = some off ∧ (pc : Int) + off = (tgt : Int))) ∧ sr = zgo tgt ls rest w
  | .getfield ix => len = 3 ∧ ∃ o rest ci k fs v, st = .ref o :: rest ∧ zfx M.2.2.2.2 ix = some (ci, k) ∧ w[o]? = some (ci, fs) ∧ fs[k]? = some v ∧ sr = zgo (pc + 3) ls (v :: rest) w
  | .putfield ix => len = 3 ∧ ∃ v o rest ci k fs, st = v :: .ref o :: rest ∧ zfx M.2.2.2.2 ix = some (ci, k) ∧ w[o]? = some (ci, fs) ∧ k < fs.length ∧ zfit ci k v = true ∧ (zfin ci k = true → M.1.name = "<init>" ∧ zcn ci = M.1.cls) ∧ sr = zgo (pc + 3) ls rest (w.set o (ci, fs.set k v))
  | .iaload => len = 1 ∧ ∃ j o rest, st = .int j :: .ref o :: rest ∧ ((∃ sl x, w[o]? = some (20, sl) ∧ vp_in j sl.length ∧ sl[j.toNatClampNeg]? = some (.int x) ∧ sr = zgo (pc + 1) ls (.int x :: rest) w) ∨ (o = zSCR ∧ vp_in j L ∧ sr = zgo (pc + 1) ls (.int (xs j.toNatClampNeg) :: rest) w))
  | .iastore => len = 1 ∧ ∃ x j o rest sl, st = .int x :: .int j :: .ref o :: rest ∧ w[o]? = some (20, sl) ∧ vp_in j sl.length ∧ sr = zgo (pc + 1) ls rest (w.set o (20, sl.set j.toNatClampNeg (.int x)))
  | .baload => len = 1 ∧ ∃ j o rest sl x, st = .int j :: .ref o :: rest ∧ w[o]? = some (21, sl) ∧ vp_in j sl.length ∧ sl[j.toNatClampNeg]? = some (.int x) ∧ sr = zgo (pc + 1) ls (.int x :: rest) w
  | .bastore => len = 1 ∧ ∃ x j o rest sl, st = .int x :: .int j :: .ref o :: rest ∧ (x = 0 ∨ x = 1) ∧ w[o]? = some (21, sl) ∧ vp_in j sl.length ∧ sr = zgo (pc + 1) ls rest (w.set o (21, sl.set j.toNatClampNeg (.int x)))
  | .aaload => len = 1 ∧ ∃ j o rest t sl v, st = .int j :: .ref o :: rest ∧ (t = 22 ∨ t = 23) ∧ w[o]? = some (t, sl) ∧ vp_in j sl.length ∧ sl[j.toNatClampNeg]? = some v ∧ zrv v = true ∧ sr = zgo (pc + 1) ls (v :: rest) w
  | .aastore => len = 1 ∧ ∃ q j o rest t sl ci fs, st = .ref q :: .int j :: .ref o :: rest ∧ (ci = 4 ∨ ci = 6) ∧ t = zacl ci ∧ w[q]? = some (ci, fs) ∧ w[o]? = some (t, sl) ∧ vp_in j sl.length ∧ sr = zgo (pc + 1) ls rest (w.set o (t, sl.set j.toNatClampNeg (.ref q)))
  | .arraylength => len = 1 ∧ ∃ o rest, st = .ref o :: rest ∧ ((∃ t sl, w[o]? = some (t, sl) ∧ 20 ≤ t ∧ t ≤ 23 ∧ sr = zgo (pc + 1) ls (.int (Int32.ofNat sl.length) :: rest) w) ∨ (o = zSCR ∧ sr = zgo (pc + 1) ls (.int (Int32.ofNat L) :: rest) w))
  | .new ix => len = 3 ∧ ∃ ci, zkx M.2.2.2.2 ix = some ci ∧ w.length < zlim ∧ sr = zgo (pc + 3) ls (.ref w.length :: st) (w ++ [(ci, zblank ci)])
  | .newarray at_ => len = 2 ∧ ∃ n rest t, st = .int n :: rest ∧ ¬ n < 0 ∧ n.toNatClampNeg ≤ 100000 ∧ ((at_ = .int ∧ t = 20) ∨ (at_ = .boolean ∧ t = 21)) ∧ w.length < zlim ∧ sr = zgo (pc + 2) ls (.ref w.length :: rest) (w ++ [(t, List.replicate n.toNatClampNeg (.int 0))])
  | .anewarray ix => len = 3 ∧ ∃ n rest ci, st = .int n :: rest ∧ ¬ n < 0 ∧ n.toNatClampNeg ≤ 100000 ∧ zkx M.2.2.2.2 ix = some ci ∧ (ci = 4 ∨ ci = 6) ∧ w.length < zlim ∧ sr = zgo (pc + 3) ls (.ref w.length :: rest) (w ++ [(zacl ci, List.replicate n.toNatClampNeg .null)])
  | .invokevirtual ix => len = 3 ∧ ∃ j As o rest N, zmx M.2.2.2.2 ix = some (j, 1) ∧ zpms[j]? = some N ∧ zna[j]? = some As.length ∧ st = As.reverse ++ .ref o :: rest ∧ zcat rest ≤ 8 ∧ zrecv w o N.1.cls ∧ sr = .inr (.inr (j, .ref o :: As, rest))
  | .invokespecial ix => len = 3 ∧ ((∃ o rest, zmx M.2.2.2.2 ix = some (1000, 2) ∧ st = .ref o :: rest ∧ zcat rest ≤ 8 ∧ sr = zgo (pc + 3) ls rest w) ∨ (∃ j As o rest N, zmx M.2.2.2.2 ix = some (j, 2) ∧ zpms[j]? = some N ∧ zna[j]? = some As.length ∧ N.1.name = "<init>" ∧ N.2.2.2.1 = none ∧ st = As.reverse ++ .ref o :: rest ∧ zcat rest ≤ 8 ∧ sr = .inr (.inr (j, .ref o :: As, rest))))
  | .invokestatic ix => len = 3 ∧ ((∃ x y rest, zmx M.2.2.2.2 ix = some (1001, 0) ∧ st = .int y :: .int x :: rest ∧ zcat rest ≤ 8 ∧ sr = zgo (pc + 3) ls (.int (if x < y then y else x) :: rest) w) ∨ (∃ x y rest, zmx M.2.2.2.2 ix = some (1002, 0) ∧ st = .int y :: .int x :: rest ∧ zcat rest ≤ 8 ∧ sr = zgo (pc + 3) ls (.int (if y < x then y else x) :: rest) w) ∨ (∃ j As rest N, zmx M.2.2.2.2 ix = some (j, 0) ∧ zpms[j]? = some N ∧ zna[j]? = some As.length ∧ st = As.reverse ++ rest ∧ zcat rest ≤ 8 ∧ sr = .inr (.inr (j, As, rest))))
  | .ireturn => len = 1 ∧ ∃ x, st = [.int x] ∧ (M.2.2.2.1 = some .int ∨ (M.2.2.2.1 = some .boolean ∧ (x = 0 ∨ x = 1))) ∧ sr = .inr (.inl (some (.int x)))
  | .areturn => len = 1 ∧ ∃ v n, st = [v] ∧ zrv v = true ∧ M.2.2.2.1 = some (.object n) ∧ sr = .inr (.inl (some v))
  | .return_ => len = 1 ∧ st = [] ∧ M.2.2.2.1 = none ∧ sr = .inr (.inl none)
  | _ => False
/-- a method's run: calls by E -/
def zRun (L : Nat) (xs : Nat → Int32) (E : Nat → List Value → zW → Option Value → zW → Prop) (M : zPM) : Nat → Nat → zL → List Value → zW → Option Value → zW → Prop
  | 0, _, _, _, _, _, _ => False
  | n + 1, pc, ls, st, w, r, w' => ∃ (i : Instr) (len : Nat) (sr : zSR), decode M.2.1 pc = .ok (i, len) ∧ zStep L xs M i len pc ls st w sr ∧ (match sr with
    | .inl (pc2, ls2, st2, w2) => zRun L xs E M n pc2 ls2 st2 w2 r w'
    | .inr (.inl v) => r = v ∧ w' = w
    | .inr (.inr (j, As, rest)) => ∃ v w2, E j As w v w2 ∧ zRun L xs E M n (pc + len) ls (v.toList ++ rest) w2 r w')
/-- the locals at the start -/
def zargs : List Value → zL
  | [] => []
  | v :: vs => if v.category = 2 then some v :: none :: zargs vs else some v :: zargs vs
def zini (maxL : Nat) (As : List Value) : zL := zargs As ++ List.replicate (maxL - (zargs As).length) none
def zjLen : Nat := 25
def zjCh : Nat := 27
/-- the signs of the one text -/
def zbytes : List Int32 := [114, 101, 97, 108, 109, 32, 110, 111, 117, 110, 32, 112, 108, 97, 105, 110, 32, 99, 111, 108, 111, 117, 114, 32, 104, 97, 108, 102, 32, 110, 97, 109, 101, 32, 99, 104, 97, 110, 103, 101, 32, 99, 105, 116, 105, 122, 101, 110, 32, 108, 111, 118, 101, 114, 32, 99, 114, 105, 116, 105, 99, 32, 112, 111, 101, 116, 32, 114, 97, 116, 105, 111, 110, 32, 110, 97, 109, 101, 115, 32, 116, 119, 105, 99, 101, 32, 115, 119, 101, 108, 108, 32, 109, 105, 108, 100, 32]
def zbyt (i : Nat) : Int32 := zbytes.getD i 0
/-- a method's answer, its calls at most d deep -/
def zEv (L : Nat) (xs : Nat → Int32) : Nat → Nat → List Value → zW → Option Value → zW → Prop
  | 0, _, _, _, _, _ => False
  | d + 1, j, As, w, r, w' => (j = zjLen ∧ 4 ≤ d ∧ As = [.ref zSTR] ∧ r = some (.int 97) ∧ w' = w) ∨ (j = zjCh ∧ 4 ≤ d ∧ ∃ i : Nat, i < 97 ∧ As = [.ref zSTR, .int (nI i)] ∧ r = some (.int (zbyt i)) ∧ w' = w) ∨ ∃ (M : zPM) (n : Nat), zpms[j]? = some M ∧ M.2.2.2.2 ≠ 99 ∧ (zargs As).length ≤ M.2.2.1 ∧ zRun L xs (zEv L xs d) M n 0 (zini M.2.2.1 As) [] w r w'
end
section
-- ===== the tables hold: each entry's words stand in lw_tbl =====
def zTB : List Cond := lw_tbl.filter goodWord
def znest (w : Cond) : Bool := match w with
  | .fieldLinkNest .. => true
  | .methodLinkNest .. => true
  | _ => false
def zNW : List Cond := lw_tbl.filter znest
def zok (k : Nat) (w : Cond) : Bool := decide (lw_tbl[k]? = some w) && goodWord w
def zokn (k : Nat) (w : Cond) : Bool := decide (lw_tbl[k]? = some w) && znest w
theorem zok_in {k : Nat} {w : Cond} (h : zok k w = true) : w ∈ zTB := by
  simp only [zok, Bool.and_eq_true, decide_eq_true_eq] at h
  exact List.mem_filter.mpr ⟨List.mem_of_getElem? h.1, h.2⟩
theorem zokn_in {k : Nat} {w : Cond} (h : zokn k w = true) : w ∈ zNW := by
  simp only [zokn, Bool.and_eq_true, decide_eq_true_eq] at h
  exact List.mem_filter.mpr ⟨List.mem_of_getElem? h.1, h.2⟩
def zmk (M : zPM) : Cond := .code M.1 M.2.1 M.2.2.1 M.2.2.2.1
set_option maxRecDepth 100000 in
theorem zcd_1 : zpms_1.map zmk = tables_1_1.filter k2_isCode := rfl
set_option maxRecDepth 100000 in
theorem zcd_2 : zpms_2.map zmk = tables_1_2.filter k2_isCode := rfl
set_option maxRecDepth 100000 in
theorem zcd_3 : zpms_3.map zmk = tables_1_3.filter k2_isCode := rfl
set_option maxRecDepth 100000 in
theorem zcd_4 : zpms_4.map zmk = tables_1_4.filter k2_isCode := rfl
set_option maxRecDepth 100000 in
theorem zcd_5 : zpms_5.map zmk = tables_1_5.filter k2_isCode := rfl
set_option maxRecDepth 100000 in
theorem zcd_6 : zpms_6.map zmk = tables_1_6.filter k2_isCode := rfl
theorem zcode_in {M : zPM} (h : M ∈ zpms) : zmk M ∈ zTB := by
  have key : ∀ {l : List zPM} {t : List Cond}, l.map zmk = t.filter k2_isCode → M ∈ l → zmk M ∈ t := fun e hM => (List.mem_filter.mp (e ▸ List.mem_map.mpr ⟨M, hM, rfl⟩)).1
  refine List.mem_filter.mpr ⟨?_, rfl⟩
  show zmk M ∈ k2_sels lw_privs ++ (tables_1_1 ++ (tables_1_2 ++ (tables_1_3 ++ (tables_1_4 ++ (tables_1_5 ++ tables_1_6)))))
  have h : M ∈ zpms_1 ++ (zpms_2 ++ (zpms_3 ++ (zpms_4 ++ (zpms_5 ++ zpms_6)))) := h
  simp only [List.mem_append] at h ⊢
  rcases h with h | h | h | h | h | h
  · exact Or.inr (Or.inl (key zcd_1 h))
  · exact Or.inr (Or.inr (Or.inl (key zcd_2 h)))
  · exact Or.inr (Or.inr (Or.inr (Or.inl (key zcd_3 h))))
  · exact Or.inr (Or.inr (Or.inr (Or.inr (Or.inl (key zcd_4 h)))))
  · exact Or.inr (Or.inr (Or.inr (Or.inr (Or.inr (Or.inl (key zcd_5 h))))))
  · exact Or.inr (Or.inr (Or.inr (Or.inr (Or.inr (Or.inr (key zcd_6 h))))))
def zflW (e : Nat × Nat × Nat × Nat × Option String) : Bool := match zcl[e.2.1]? with
  | some q => decide (e.2.2.1 < q.2.2) && (match e.2.2.2.2 with
    | none => zok e.2.2.2.1 (.fieldLink (zcn (e.1 / 1000)) (e.1 % 1000) q.1 (q.2.1 e.2.2.1).2.1 (q.2.1 e.2.2.1).2.2.1)
    | some h => zokn e.2.2.2.1 (.fieldLinkNest (zcn (e.1 / 1000)) (e.1 % 1000) q.1 (q.2.1 e.2.2.1).2.1 (q.2.1 e.2.2.1).2.2.1 h))
  | none => false
set_option maxRecDepth 100000 in
theorem zfl_ok : zfl.all zflW = true := by decide +kernel
def zklW (e : Nat × Nat × Nat) : Bool := decide (e.2.1 < 11) && zok e.2.2 (.classLink (zcn (e.1 / 1000)) (e.1 % 1000) (zcn e.2.1))
set_option maxRecDepth 100000 in
theorem zkl_ok : zkl.all zklW = true := by decide +kernel
def zilW (e : Nat × Int32 × Nat) : Bool := zok e.2.2 (.constant (zcn (e.1 / 1000)) (e.1 % 1000) e.2.1)
set_option maxRecDepth 100000 in
theorem zil_ok : zil.all zilW = true := by decide +kernel
def zllW (e : Nat × Int64 × Nat) : Bool := zok e.2.2 (.constantLong (zcn (e.1 / 1000)) (e.1 % 1000) e.2.1)
set_option maxRecDepth 100000 in
theorem zll_ok : zll.all zllW = true := by decide +kernel
def zkpW (ci : Nat) : Bool := match zcl[ci]?, zkp[ci]? with
  | some q, some e => decide (q.1 = zcn ci) && zok e.1 (.instantiable q.1 q.2.2) && zok e.2.1 (.initialized q.1) && (List.range q.2.2).all (fun k => match e.2.2[k]? with
    | some pl => zok pl (u_lay q.1 q.2.1 k) && decide ((q.2.1 k).1 = q.1)
    | none => false)
  | _, _ => false
set_option maxRecDepth 100000 in
theorem zkp_ok : (List.range 11).all zkpW = true := by decide +kernel
def zmpW (j : Nat) : Bool := match zpms[j]?, zmp[j]?, zna[j]? with
  | some M, some e, some n => if decide (M.2.2.2.2 = 99) && !(decide (j = zjLen) || decide (j = zjCh)) then true else decide (M.2.2.1 ≤ 16) && decide (M.1.cls ≠ "java/lang/invoke/MethodHandle") && decide (M.1.cls ≠ "java/lang/invoke/VarHandle") && plainName M.1.cls && decide ((parseMethodDescriptor M.1.desc).map (fun d => d.parameters.length) = some n) && zok e.2 (.initialized M.1.cls) && (decide (M.2.2.2.2 = 99) || decide (zcn M.2.2.2.2 = M.1.cls))
  | _, _, _ => false
set_option maxRecDepth 100000 in
theorem zmp_ok : (List.range 231).all zmpW = true := by decide +kernel
def zmlY (j : Nat) : Option MethodName := if j = 1000 then some Lib.objectInit else if j = 1001 then some Lib.Math.max.name else if j = 1002 then some Lib.Math.min.name else (zpms[j]?).map (fun M => M.1)
def zmlW1 (e : Nat × Nat × Nat × Nat × Nat × Nat × Option String) : Bool := match zmlY e.2.1 with
  | none => false
  | some y => match e.2.2.2.2.2.2 with
    | none => zok e.2.2.2.1 (.methodLink (zcn (e.1 / 1000)) (e.1 % 1000) y)
    | some h => decide (e.2.1 < 1000) && zokn e.2.2.2.1 (.methodLinkNest (zcn (e.1 / 1000)) (e.1 % 1000) y h)
def zmlW2 (e : Nat × Nat × Nat × Nat × Nat × Nat × Option String) : Bool := match zmlY e.2.1 with
  | none => false
  | some y => if e.2.2.1 = 0 then zok e.2.2.2.2.1 (.static y) else zok e.2.2.2.2.1 (.instanceMethod y)
def zmlW3 (e : Nat × Nat × Nat × Nat × Nat × Nat × Option String) : Bool := match zmlY e.2.1 with
  | none => false
  | some y => if e.2.2.1 = 1 then zok e.2.2.2.2.2.1 (.selects y.cls y y) else true
def zmlW4 (e : Nat × Nat × Nat × Nat × Nat × Nat × Option String) : Bool := match zmlY e.2.1, zmp[e.2.1]? with
  | some y, some q => zok q.2 (.initialized y.cls)
  | _, _ => decide (1000 ≤ e.2.1)
set_option maxRecDepth 100000 in
theorem zml_ok1 : zml.all zmlW1 = true := by decide +kernel
set_option maxRecDepth 100000 in
theorem zml_ok2 : zml.all zmlW2 = true := by decide +kernel
set_option maxRecDepth 100000 in
theorem zml_ok3 : zml.all zmlW3 = true := by decide +kernel
set_option maxRecDepth 100000 in
theorem zml_ok4 : zml.all zmlW4 = true := by decide +kernel
end
section
-- ===== what the tables' lookups give =====
theorem zfind {α : Type} {l : List (Nat × α)} {k : Nat} {p : (Nat × α) → Bool} (hp : l.all p = true) {e : Nat × α} (h : l.find? (fun e => e.1 == k) = some e) : e.1 = k ∧ p e = true := by
  have h1 := List.find?_some h
  have h2 := List.mem_of_find?_eq_some h
  exact ⟨by simpa using h1, List.all_eq_true.mp hp e h2⟩
theorem zkey {oc ix : Nat} (h : ix < 1000) : (oc * 1000 + ix) / 1000 = oc ∧ (oc * 1000 + ix) % 1000 = ix := by omega
theorem zfx_spec {oc ix ci k : Nat} (h : zfx oc ix = some (ci, k)) : ∃ q : vw_C, zcl[ci]? = some q ∧ k < q.2.2 ∧ (Cond.fieldLink (zcn oc) ix q.1 (q.2.1 k).2.1 (q.2.1 k).2.2.1 ∈ zTB ∨ ∃ ho, Cond.fieldLinkNest (zcn oc) ix q.1 (q.2.1 k).2.1 (q.2.1 k).2.2.1 ho ∈ zNW) := by
  unfold zfx at h
  split at h
  · rename_i hix
    cases hf : zfl.find? (fun e => e.1 == oc * 1000 + ix) with
    | none => rw [hf] at h; cases h
    | some e =>
      rw [hf] at h
      obtain ⟨h1, h2⟩ := zfind zfl_ok hf
      have h3 := Option.some.inj h
      simp only [Prod.mk.injEq] at h3
      obtain ⟨rfl, rfl⟩ := h3
      obtain ⟨e1, e2⟩ := zkey (oc := oc) hix
      unfold zflW at h2
      rw [h1, e1, e2] at h2
      split at h2
      · rename_i q hq
        simp only [Bool.and_eq_true, decide_eq_true_eq] at h2
        refine ⟨q, hq, h2.1, ?_⟩
        have h4 := h2.2
        split at h4
        · exact Or.inl (zok_in h4)
        · exact Or.inr ⟨_, zokn_in h4⟩
      · cases h2
  · cases h
theorem zkx_spec {oc ix ci : Nat} (h : zkx oc ix = some ci) : ci < 11 ∧ Cond.classLink (zcn oc) ix (zcn ci) ∈ zTB := by
  unfold zkx at h
  split at h
  · rename_i hix
    cases hf : zkl.find? (fun e => e.1 == oc * 1000 + ix) with
    | none => rw [hf] at h; cases h
    | some e =>
      rw [hf] at h
      obtain ⟨h1, h2⟩ := zfind zkl_ok hf
      have h3 : e.2.1 = ci := Option.some.inj h
      subst h3
      obtain ⟨e1, e2⟩ := zkey (oc := oc) hix
      unfold zklW at h2
      rw [h1, e1, e2] at h2
      simp only [Bool.and_eq_true, decide_eq_true_eq] at h2
      exact ⟨h2.1, zok_in h2.2⟩
  · cases h
theorem zix_spec {oc ix : Nat} {v : Int32} (h : zix oc ix = some v) : Cond.constant (zcn oc) ix v ∈ zTB := by
  unfold zix at h
  split at h
  · rename_i hix
    cases hf : zil.find? (fun e => e.1 == oc * 1000 + ix) with
    | none => rw [hf] at h; cases h
    | some e =>
      rw [hf] at h
      obtain ⟨h1, h2⟩ := zfind zil_ok hf
      have h3 : e.2.1 = v := Option.some.inj h
      subst h3
      obtain ⟨e1, e2⟩ := zkey (oc := oc) hix
      unfold zilW at h2
      rw [h1, e1, e2] at h2
      exact zok_in h2
  · cases h
theorem zlx_spec {oc ix : Nat} {v : Int64} (h : zlx oc ix = some v) : Cond.constantLong (zcn oc) ix v ∈ zTB := by
  unfold zlx at h
  split at h
  · rename_i hix
    cases hf : zll.find? (fun e => e.1 == oc * 1000 + ix) with
    | none => rw [hf] at h; cases h
    | some e =>
      rw [hf] at h
      obtain ⟨h1, h2⟩ := zfind zll_ok hf
      have h3 : e.2.1 = v := Option.some.inj h
      subst h3
      obtain ⟨e1, e2⟩ := zkey (oc := oc) hix
      unfold zllW at h2
      rw [h1, e1, e2] at h2
      exact zok_in h2
  · cases h
theorem zmx_spec {oc ix j kd : Nat} (h : zmx oc ix = some (j, kd)) : ∃ y, zmlY j = some y ∧ (Cond.methodLink (zcn oc) ix y ∈ zTB ∨ (j < 1000 ∧ ∃ ho, Cond.methodLinkNest (zcn oc) ix y ho ∈ zNW)) ∧ (kd = 0 → Cond.static y ∈ zTB) ∧ (kd ≠ 0 → Cond.instanceMethod y ∈ zTB) ∧ (kd = 1 → Cond.selects y.cls y y ∈ zTB) ∧ (j < 1000 → Cond.initialized y.cls ∈ zTB) ∧ (1000 ≤ j → Cond.methodLink (zcn oc) ix y ∈ zTB) := by
  unfold zmx at h
  split at h
  · rename_i hix
    cases hf : zml.find? (fun e => e.1 == oc * 1000 + ix) with
    | none => rw [hf] at h; cases h
    | some e =>
      rw [hf] at h
      obtain ⟨h1, a1⟩ := zfind zml_ok1 hf
      obtain ⟨-, a2⟩ := zfind zml_ok2 hf
      obtain ⟨-, a3⟩ := zfind zml_ok3 hf
      obtain ⟨-, a4⟩ := zfind zml_ok4 hf
      have h3 := Option.some.inj h
      simp only [Prod.mk.injEq] at h3
      obtain ⟨rfl, rfl⟩ := h3
      obtain ⟨e1, e2⟩ := zkey (oc := oc) hix
      unfold zmlW1 at a1
      unfold zmlW2 at a2
      unfold zmlW3 at a3
      unfold zmlW4 at a4
      rw [h1, e1, e2] at a1
      cases hy : zmlY e.2.1 with
      | none => rw [hy] at a1; cases a1
      | some y =>
        rw [hy] at a1 a2 a3 a4
        dsimp only at a1 a2 a3 a4
        refine ⟨y, rfl, ?_, fun hk => ?_, fun hk => ?_, fun hk => ?_, fun hk => ?_, fun hk => ?_⟩
        · split at a1
          · exact Or.inl (zok_in a1)
          · simp only [Bool.and_eq_true, decide_eq_true_eq] at a1
            exact Or.inr ⟨a1.1, _, zokn_in a1.2⟩
        · rw [if_pos hk] at a2
          exact zok_in a2
        · rw [if_neg hk] at a2
          exact zok_in a2
        · rw [if_pos hk] at a3
          exact zok_in a3
        · split at a4
          · rename_i hh1 hh2
            cases hh1
            exact zok_in a4
          · simp only [decide_eq_true_eq] at a4
            omega
        · split at a1
          · exact zok_in a1
          · simp only [Bool.and_eq_true, decide_eq_true_eq] at a1
            omega
  · cases h
-- ===== the classes =====
def zty (ci k : Nat) : FieldType := (parseFieldDescriptor (zdes ci k)).getD .int
def zclW (ci : Nat) : Bool := match zcl[ci]? with
  | none => false
  | some q => (List.range q.2.2).all (fun k => decide (parseFieldDescriptor (q.2.1 k).2.2.1 = some (zty ci k)) && decide (defaultValue (zty ci k) = zdv ci k) && (if zdes ci k = "I" then decide (zty ci k = .int) else match zty ci k with
    | .object _ => true
    | .array _ => true
    | _ => false) && (List.range q.2.2).all (fun a => decide (a = k) || decide ((q.2.1 a).2.1 ≠ (q.2.1 k).2.1)))
set_option maxRecDepth 100000 in
theorem zcl_ok : (List.range 11).all zclW = true := by decide +kernel
theorem zcl_lt {ci : Nat} {q : vw_C} (h : zcl[ci]? = some q) : ci < 11 := by
  have := (List.getElem?_eq_some_iff.mp h).1
  exact this
theorem zcl_get {ci : Nat} (h : ci < 11) : ∃ q, zcl[ci]? = some q := ⟨_, List.getElem?_eq_getElem (l := zcl) (i := ci) h⟩
theorem zcl_spec {ci : Nat} {q : vw_C} (h : zcl[ci]? = some q) : q.1 = zcn ci ∧ Cond.instantiable q.1 q.2.2 ∈ zTB ∧ Cond.initialized q.1 ∈ zTB ∧ (∀ w ∈ u_ws q.1 q.2.1 q.2.2, w ∈ zTB) ∧ (∀ k, k < q.2.2 → (q.2.1 k).1 = q.1) := by
  have h1 := List.all_eq_true.mp zkp_ok ci (List.mem_range.mpr (zcl_lt h))
  unfold zkpW at h1
  rw [h] at h1
  split at h1
  · rename_i q' e hq he
    cases hq
    simp only [Bool.and_eq_true, decide_eq_true_eq] at h1
    obtain ⟨⟨⟨a1, a2⟩, a3⟩, a4⟩ := h1
    have key : ∀ k, k < q.2.2 → u_lay q.1 q.2.1 k ∈ zTB ∧ (q.2.1 k).1 = q.1 := by
      intro k hk
      have h2 := List.all_eq_true.mp a4 k (List.mem_range.mpr hk)
      split at h2
      · simp only [Bool.and_eq_true, decide_eq_true_eq] at h2
        exact ⟨zok_in h2.1, h2.2⟩
      · cases h2
    refine ⟨a1, zok_in a2, zok_in a3, fun w hw => ?_, fun k hk => (key k hk).2⟩
    obtain ⟨k, hk, rfl⟩ := List.mem_map.mp hw
    exact (key k (List.mem_range.mp hk)).1
  · cases h1
theorem zcl_spec2 {ci : Nat} {q : vw_C} (h : zcl[ci]? = some q) : ∀ k, k < q.2.2 → parseFieldDescriptor (q.2.1 k).2.2.1 = some (zty ci k) ∧ defaultValue (zty ci k) = zdv ci k ∧ (zdes ci k = "I" → zty ci k = .int) ∧ (zdes ci k ≠ "I" → (∃ n, zty ci k = .object n) ∨ ∃ t, zty ci k = .array t) ∧ ∀ a, a < q.2.2 → a ≠ k → (q.2.1 a).2.1 ≠ (q.2.1 k).2.1 := by
  intro k hk
  have h1 := List.all_eq_true.mp zcl_ok ci (List.mem_range.mpr (zcl_lt h))
  unfold zclW at h1
  rw [h] at h1
  have h2 := List.all_eq_true.mp h1 k (List.mem_range.mpr hk)
  simp only [Bool.and_eq_true, decide_eq_true_eq] at h2
  obtain ⟨⟨⟨a1, a2⟩, a3⟩, a4⟩ := h2
  refine ⟨a1, a2, fun hI => ?_, fun hI => ?_, fun a ha hne => ?_⟩
  · rw [if_pos hI] at a3
    simpa using a3
  · rw [if_neg hI] at a3
    split at a3
    · rename_i n hn; exact Or.inl ⟨n, hn⟩
    · rename_i n hn; exact Or.inr ⟨n, hn⟩
    · cases a3
  · have h3 := List.all_eq_true.mp a4 a (List.mem_range.mpr ha)
    simp only [Bool.or_eq_true, decide_eq_true_eq] at h3
    exact h3.resolve_left hne
theorem zdes_eq {ci : Nat} {q : vw_C} (h : zcl[ci]? = some q) (k : Nat) : zdes ci k = (q.2.1 k).2.2.1 ∧ zfin ci k = (q.2.1 k).2.2.2 ∧ znf ci = q.2.2 := by
  unfold zdes zfin znf
  rw [h]
  exact ⟨rfl, rfl, rfl⟩
theorem zmeth {j : Nat} {M : zPM} (h : zpms[j]? = some M) (ho : M.2.2.2.2 ≠ 99 ∨ j = zjLen ∨ j = zjCh) : ∃ n, zna[j]? = some n ∧ M.2.2.1 ≤ 16 ∧ M.1.cls ≠ "java/lang/invoke/MethodHandle" ∧ M.1.cls ≠ "java/lang/invoke/VarHandle" ∧ plainName M.1.cls = true ∧ (parseMethodDescriptor M.1.desc).map (fun d => d.parameters.length) = some n ∧ Cond.initialized M.1.cls ∈ zTB ∧ (M.2.2.2.2 ≠ 99 → zcn M.2.2.2.2 = M.1.cls) := by
  have hl : j < 231 := (List.getElem?_eq_some_iff.mp h).1
  have h1 := List.all_eq_true.mp zmp_ok j (List.mem_range.mpr hl)
  unfold zmpW at h1
  rw [h] at h1
  split at h1
  · rename_i M' e n hM he hn
    cases hM
    split at h1
    · rename_i hc
      simp only [Bool.and_eq_true, decide_eq_true_eq, Bool.not_eq_true', Bool.or_eq_false_iff, decide_eq_false_iff_not] at hc
      rcases ho with ho | ho | ho
      · exact absurd hc.1 ho
      · exact absurd ho hc.2.1
      · exact absurd ho hc.2.2
    · simp only [Bool.and_eq_true, decide_eq_true_eq, Bool.or_eq_true] at h1
      obtain ⟨⟨⟨⟨⟨⟨b1, b2⟩, b3⟩, b4⟩, b5⟩, b6⟩, b7⟩ := h1
      exact ⟨n, hn, b1, b2, b3, b4, b5, zok_in b6, fun h => b7.resolve_left h⟩
  · cases h1
-- ===== the world in the heap =====
abbrev zG : Type := Nat × Nat × Nat × va_G × ClassId × ClassId × ClassId × ClassId × Nat × (Nat → Int32) × (Nat → Nat)
/-- the script's cell, the first new cell, the text's cell, the classes, the array classes, the script, the text's bytes -/
def zgb (G : zG) : Nat := G.1
def zgB (G : zG) : Nat := G.2.1
def zgs (G : zG) : Nat := G.2.2.1
def zgD (G : zG) : va_G := G.2.2.2.1
def zgI (G : zG) : ClassId := G.2.2.2.2.1
def zgZ (G : zG) : ClassId := G.2.2.2.2.2.1
def zgS (G : zG) : ClassId := G.2.2.2.2.2.2.1
def zgN (G : zG) : ClassId := G.2.2.2.2.2.2.2.1
def zgL (G : zG) : Nat := G.2.2.2.2.2.2.2.2.1
def zgx (G : zG) : Nat → Int32 := G.2.2.2.2.2.2.2.2.2.1
def zgv (G : zG) : Nat → Nat := G.2.2.2.2.2.2.2.2.2.2
def zad (G : zG) (k : Nat) : Nat := if k = zSCR then zgb G else if k = zSTR then zgs G else zgB G + k
def ztr (G : zG) (v : Value) : Value := match v with
  | .ref k => .ref (zad G k)
  | v => v
def zint (sl : List Value) : Nat → Int32 := fun j => match sl[j]? with
  | some (.int x) => x
  | _ => 0
def zref (G : zG) (sl : List Value) : Nat → Option Nat := fun j => match sl[j]? with
  | some (.ref k) => some (zad G k)
  | _ => none
def zconv (G : zG) (c : Nat × List Value) : va_E :=
  if c.1 = 20 then .inl (zgI G, c.2.length, .inl (zint c.2)) else if c.1 = 21 then .inl (zgZ G, c.2.length, .inl (zint c.2)) else
  if c.1 = 22 then .inl (zgS G, c.2.length, .inr (.inr (.inr (.inr (zref G c.2))))) else if c.1 = 23 then .inl (zgN G, c.2.length, .inr (.inr (.inr (.inr (zref G c.2))))) else
  .inr (c.1, c.2.map (ztr G))
def ztoW (G : zG) (w : zW) : va_W := w.mapIdx (fun k c => (zgB G + k, zconv G c))
def ztys (G : zG) : List (ClassId × FieldType) := [(zgI G, .int), (zgZ G, .boolean), (zgS G, .object "AdjectiveCoupons$State"), (zgN G, .object "AdjectiveCoupons$Line")]
abbrev zA (G : zG) : Nat → Prop := fun q => zgB G ≤ q
def zsz (w : zW) : Nat := (w.map (fun c => c.2.length)).sum
theorem zad_own {G : zG} {k : Nat} {w : zW} {c : Nat × List Value} (h : w[k]? = some c) (hl : w.length ≤ zlim) : zad G k = zgB G + k := by
  have h1 := (List.getElem?_eq_some_iff.mp h).1
  unfold zlim at hl
  unfold zad zSCR zSTR
  rw [if_neg (by omega), if_neg (by omega)]
theorem zad_new {G : zG} {w : zW} (hl : w.length < zlim) : zad G w.length = zgB G + w.length := by
  unfold zlim at hl
  unfold zad zSCR zSTR
  rw [if_neg (by omega), if_neg (by omega)]
theorem zconv_obj {G : zG} {ci : Nat} (h : ci < 11) (fs : List Value) : zconv G (ci, fs) = .inr (ci, fs.map (ztr G)) := by
  unfold zconv
  rw [if_neg (show ¬ ci = 20 by omega), if_neg (show ¬ ci = 21 by omega), if_neg (show ¬ ci = 22 by omega), if_neg (show ¬ ci = 23 by omega)]
theorem ztoW_get {G : zG} {w : zW} {k : Nat} {c : Nat × List Value} (h : w[k]? = some c) : (ztoW G w)[k]? = some (zgB G + k, zconv G c) := by
  unfold ztoW
  rw [List.getElem?_mapIdx, h]
  rfl
theorem ztoW_inv {G : zG} {w : zW} {k : Nat} {q : Nat × va_E} (h : (ztoW G w)[k]? = some q) : q.1 = zgB G + k := by
  unfold ztoW at h
  rw [List.getElem?_mapIdx] at h
  cases hw : w[k]? with
  | none => rw [hw] at h; cases h
  | some c => rw [hw] at h; cases h; rfl
theorem ztoW_set {G : zG} {w : zW} {k : Nat} (c : Nat × List Value) : ztoW G (w.set k c) = (ztoW G w).set k (zgB G + k, zconv G c) := by
  apply List.ext_getElem?
  intro i
  unfold ztoW
  rw [List.getElem?_mapIdx, List.getElem?_set, List.getElem?_set, List.getElem?_mapIdx, List.length_mapIdx]
  by_cases h : k = i
  · subst h
    rw [if_pos rfl, if_pos rfl]
    split <;> rfl
  · rw [if_neg h, if_neg h]
theorem ztoW_app {G : zG} {w : zW} (c : Nat × List Value) : ztoW G (w ++ [c]) = ztoW G w ++ [(zgB G + w.length, zconv G c)] := by
  apply List.ext_getElem?
  intro i
  unfold ztoW
  rw [List.getElem?_mapIdx]
  rcases Nat.lt_trichotomy i w.length with h | h | h
  · rw [List.getElem?_append_left h, List.getElem?_append_left (by rw [List.length_mapIdx]; exact h), List.getElem?_mapIdx]
  · subst h
    rw [List.getElem?_append_right (Nat.le_refl _), List.getElem?_append_right (by rw [List.length_mapIdx]; exact Nat.le_refl _), List.length_mapIdx, Nat.sub_self]
    rfl
  · rw [List.getElem?_eq_none (by simp; omega), List.getElem?_eq_none (by simp; omega)]
    rfl
theorem zDok {G : zG} {w : zW} : va_D (zA G) (ztoW G w) := by
  refine ⟨fun i j p q hi hj h => ?_, fun k q h => ?_⟩
  · have := ztoW_inv hi
    have := ztoW_inv hj
    omega
  · have := ztoW_inv h
    show zgB G ≤ q.1
    omega
theorem zsz_set {w : zW} {k t t2 : Nat} {sl sl2 : List Value} (h : w[k]? = some (t, sl)) (hl : sl2.length = sl.length) : zsz (w.set k (t2, sl2)) = zsz w := by
  unfold zsz
  rw [List.map_set]
  congr 1
  apply List.ext_getElem?
  intro i
  rw [List.getElem?_set]
  by_cases hk : k = i
  · subst hk
    rw [if_pos rfl, List.getElem?_map, h, List.length_map, if_pos (List.getElem?_eq_some_iff.mp h).1, hl]
    rfl
  · rw [if_neg hk]
theorem zsz_app {w : zW} {c : Nat × List Value} : zsz (w ++ [c]) = zsz w + c.2.length := by
  unfold zsz
  simp
theorem zint_set {sl : List Value} {j : Nat} {x : Int32} (h : j < sl.length) : zint (sl.set j (.int x)) = upd (zint sl) j x := by
  funext q
  unfold zint upd
  rw [List.getElem?_set]
  by_cases hq : q = j
  · subst hq
    rw [if_pos rfl, if_pos h, if_pos rfl]
  · rw [if_neg (Ne.symm hq), if_neg hq]
theorem zref_set {G : zG} {sl : List Value} {j k : Nat} (h : j < sl.length) : zref G (sl.set j (.ref k)) = va_up (zref G sl) j (some (zad G k)) := by
  funext q
  unfold zref va_up
  rw [List.getElem?_set]
  by_cases hq : q = j
  · subst hq
    rw [if_pos rfl, if_pos h, if_pos rfl]
  · rw [if_neg (Ne.symm hq), if_neg hq]
theorem zint_get {sl : List Value} {j : Nat} {x : Int32} (h : sl[j]? = some (.int x)) : zint sl j = x := by
  unfold zint
  rw [h]
theorem zref_get {G : zG} {sl : List Value} {j : Nat} {v : Value} (h : sl[j]? = some v) (hv : zrv v = true) : va_rf (zref G sl j) = ztr G v := by
  unfold zref
  rw [h]
  cases v <;> first | rfl | (simp [zrv] at hv)
theorem ztr_cat (G : zG) (v : Value) : (ztr G v).category = v.category := by cases v <;> rfl
theorem zcat_tr (G : zG) (st : List Value) : ((st.map (ztr G)).map fun v => v.category).sum = zcat st := by
  unfold zcat
  rw [List.map_map]
  congr 1
  apply List.map_congr_left
  intro v _
  exact ztr_cat G v
-- ===== locals =====
def zls (G : zG) (nL : Nat) (ls : zL) (real : Array Slot) : Prop := ls.length = nL ∧ real.size = nL ∧ lv_wf real ∧ ∀ (i : Nat) (v : Value), ls[i]? = some (some v) → real[i]? = some (.val (ztr G v))
def zasc (G : zG) (ls : zL) : List (Nat × Value) := (List.range ls.length).filterMap (fun i => match ls[i]? with
  | some (some v) => some (i, ztr G v)
  | _ => none)
theorem zasc_mem {G : zG} {ls : zL} {i : Nat} {v : Value} (h : ls[i]? = some (some v)) : (i, ztr G v) ∈ zasc G ls := by
  refine List.mem_filterMap.mpr ⟨i, List.mem_range.mpr (List.getElem?_eq_some_iff.mp h).1, ?_⟩
  rw [h]
theorem zasc_inv {G : zG} {ls : zL} {q : Nat × Value} (h : q ∈ zasc G ls) : ∃ v, ls[q.1]? = some (some v) ∧ q.2 = ztr G v := by
  obtain ⟨i, -, h2⟩ := List.mem_filterMap.mp h
  split at h2
  · rename_i v hv
    cases h2
    exact ⟨v, hv, rfl⟩
  · cases h2
theorem zls_has {G : zG} {nL : Nat} {ls : zL} {real : Array Slot} (h : zls G nL ls real) : lv_has real nL (zasc G ls) := by
  refine ⟨h.2.1, h.2.2.1, fun q hq => ?_⟩
  obtain ⟨v, h1, h2⟩ := zasc_inv hq
  rw [h2]
  exact h.2.2.2 _ _ h1
theorem znl_at {ls : zL} (h : znl ls = true) {i : Nat} {v : Value} (hi : ls[i]? = some (some v)) : v.category = 1 := by
  have h1 := List.all_eq_true.mp h _ (List.mem_of_getElem? hi)
  cases v <;> first | rfl | (simp [zo] at h1)
theorem zls_set {G : zG} {nL : Nat} {ls : zL} {real real' : Array Slot} (h : zls G nL ls real) (hn : znl ls = true) {k : Nat} (hk : k < nL) {v : Value} (h' : lv_has real' nL ((k, ztr G v) :: (zasc G ls).filter (fun q => !(q.1 == k) && !(q.1 + 1 == k && q.2.category == 2)))) : zls G nL (ls.set k (some v)) real' := by
  refine ⟨by rw [List.length_set]; exact h.1, h'.1, h'.2.1, fun i u hi => ?_⟩
  rw [List.getElem?_set] at hi
  by_cases hik : k = i
  · subst hik
    rw [if_pos rfl, if_pos (by rw [h.1]; exact hk)] at hi
    cases hi
    exact h'.2.2 (k, ztr G v) List.mem_cons_self
  · rw [if_neg hik] at hi
    refine h'.2.2 (i, ztr G u) (List.mem_cons_of_mem _ (List.mem_filter.mpr ⟨zasc_mem hi, ?_⟩))
    have hc := znl_at hn hi
    have hc2 := ztr_cat G u
    simp [Ne.symm hik, hc2, hc]
theorem zls_idx {G : zG} {ls : zL} {i : Nat} {v : Value} (h : ls[i]? = some (some v)) : ∃ k : Nat, (zasc G ls)[k]? = some (i, ztr G v) := List.getElem?_of_mem (zasc_mem h)
end
section
-- ===== what stays as it is: the script, the text, the tables' words of nest mates =====
def ztx : String := "realm noun plain colour half name change citizen lover critic poet ration names twice swell mild "
def zStr (G : zG) (U : State) (H : Heap) : Prop := vk_S 1 [97] [zbytes] (fun _ => zgs G) (zgv G) (zA G) U H ∧ vk_R "AdjectiveCoupons$Text" 81 ztx (zgs G) U ∧ va_Z "java/lang/String" "COMPACT_STRINGS" "Z" (.int 1) (zA G) U H ∧ va_Zq "jdk/internal/util/Preconditions" "SIOOBE_FORMATTER" "Ljava/util/function/BiFunction;" (zA G) U H
def zSt (G : zG) (U : State) (H : Heap) : Prop := va_X (zgb G) (zgL G) (zgx G) U H ∧ zgb G < zgB G ∧ zStr G U H ∧ va_K (zgD G) zcl (ztys G) U ∧ (∀ w ∈ zNW, va_Nw w U) ∧ va_AO "AdjectiveCoupons$State" U ∧ va_AO "AdjectiveCoupons$Line" U
def zWd (G : zG) (w : zW) (U : State) (H : Heap) : Prop := zSt G U H ∧ va_P (zgD G) zcl (ztoW G w) H ∧ H.size = zgB G + w.length ∧ w.length ≤ zlim
theorem zNW_warm {s U : State} (hW : s.WarmedH U.vm) {w : Cond} (hw : w ∈ zNW) (h : va_Nw w s) : va_Nw w U := by
  have h1 := (List.mem_filter.mp hw).2
  cases w <;> first | exact va_Nw.warmF hW h | exact va_Nw.warmM hW h | (simp [znest] at h1)
theorem zSt_move {G : zG} {s U : State} {H : Heap} {locs : List Loc} (h : zSt G s s.heap) (hS : va_S (zA G) s.heap H locs) (hU : U.heap = H) (hW : s.WarmedH U.vm) : zSt G U U.heap := by
  obtain ⟨hX, hb, ⟨hs1, hs2, hs3, hs4⟩, hK, hN, hA1, hA2⟩ := h
  have hbl : zgb G < s.heap.size := by
    obtain ⟨scr, h1, -⟩ := hX
    exact (Array.getElem?_eq_some_iff.mp h1).1
  have hq : ∀ a : Nat, a < s.heap.size → ¬ zA G a → U.heap[a]? = s.heap[a]? := fun a h1 h2 => by rw [hU]; exact hS.2.1 a h1 h2
  exact ⟨(hX.kept (hq _ hbl (Nat.not_le.mpr hb))).moved hW.alike, hb, ⟨(hs1.kept hq).moved hW.alike, hs2.warm hW, (hs3.kept hq).moved hW.alike, (hs4.kept hq).moved hW.alike⟩, hK.moved hW.alike, fun w hw => zNW_warm hW hw (hN w hw), hA1.moved hW.alike, hA2.moved hW.alike⟩
/-- what a method's body stands on -/
def zC (G : zG) (M : zPM) (p : Program) (s : State) (m : MethodId) (args : Array Value) (meth : Method) (c : Code) : Prop :=
  p.tables.exec = Jvm.exec ∧ c.code = M.2.1 ∧ c.maxLocals = M.2.2.1 ∧ (∀ w ∈ zTB, w.before args s = true) ∧ s.vm.findClass (zcn M.2.2.2.2) = some m.cls ∧ (M.1.name = "<init>" → meth.name = "<init>") ∧ zcn M.2.2.2.2 = M.1.cls ∧ zSt G s s.heap ∧ zgB G ≤ s.heap.size
theorem zgo_inj {a b : Nat} {l1 l2 : zL} {s1 s2 : List Value} {w1 w2 : zW} (h : (Sum.inl (a, l1, s1, w1) : zSR) = zgo b l2 s2 w2) : a = b ∧ l1 = l2 ∧ s1 = s2 ∧ w1 = w2 := by
  unfold zgo at h
  cases h
  exact ⟨rfl, rfl, rfl, rfl⟩
theorem zgo_no {x : Option Value ⊕ (Nat × List Value × List Value)} {a : Nat} {l1 : zL} {s1 : List Value} {w1 : zW} (h : (Sum.inr x : zSR) = zgo a l1 s1 w1) : False := by
  unfold zgo at h
  cases h
section ZSTEP
variable {p : Program} {l : Launch} {e : Env} {R : Room} {s : State} {m : MethodId} {args : Array Value} {below : List Frame} {meth : Method} {c : Code} {H : Heap} {locs : List Loc} {cells slots : Nat} {Q : State → Prop}
variable {cc : ByteArray} {pc : Nat} {real : Array Slot} {rest : List Value} {G : zG} {M : zPM}
/-- locals: a load, a store -/
theorem zld {nL : Nat} {ls : zL} (hl : zls G nL ls real) {i : Nat} {v : Value} (h : ls[i]? = some (some v)) : real[i]? = some (.val (ztr G v)) := hl.2.2.2 i v h
theorem zrv_cases {v : Value} (h : zrv v = true) : (∃ a, v = .ref a) ∨ v = .null := by
  cases v <;> first | exact Or.inl ⟨_, rfl⟩ | exact Or.inr rfl | (simp [zrv] at h)
/-- new objects, at the heap's end -/
theorem znew {own : String} {Ts : List Cond} {index ci : Nat} {q : vw_C} {w : zW} (hexec : p.tables.exec = Jvm.exec) (hb : c.code = cc) (hts : ∀ x ∈ Ts, x.before args s = true) (hq : zcl[ci]? = some q) (hin : ∀ x ∈ u_ws q.1 q.2.1 q.2.2, x ∈ Ts) (hown : s.vm.findClass own = some m.cls) (hcl : (Cond.classLink own index q.1).before args s = true) (hinst : (Cond.instantiable q.1 q.2.2).before args s = true) (hini : (Cond.initialized q.1).before args s = true)
    (hK : va_K (zgD G) zcl (ztys G) s) (hP : va_P (zgD G) zcl (ztoW G w) H) (hS : va_S (zA G) s.heap H locs) (hH : H.size = zgB G + w.length) (hcells : cells + 1 ≤ R.cells) (hslots : slots + q.2.2 ≤ R.slots) (hdg : decode cc pc = .ok (.new index, 3))
    (kk : ∀ H1 : Heap, va_P (zgD G) zcl (ztoW G (w ++ [(ci, zblank ci)])) H1 → va_S (zA G) s.heap H1 locs → H1.size = zgB G + (w ++ [(ci, zblank ci)]).length →
      W p l e R s m args below meth c H1 locs (cells + 1) (slots + q.2.2) Q (F0 m (pc + 3) real (.ref (zgB G + w.length) :: rest))) : W p l e R s m args below meth c H locs cells slots Q (F0 m pc real rest) := by
  have hKn := hK.1 ci _ hq
  have hci := zcl_lt hq
  refine W.newcK hexec hb hown hcl hinst hini rfl hdg hcells hslots hKn.2.1 hH fun H1 kC hkC e1 z1 o1 => ?_
  have hk : ∀ (k : Nat) (x : Nat × va_E), (ztoW G w)[k]? = some x → H1[x.1]? = H[x.1]? := fun k x hx => o1 x.1 (by rw [← hH]; exact (hP k x hx).lt)
  refine kk H1 ?_ ⟨Nat.le_trans hS.1 (by omega), fun x h1 h2 => (o1 x (by have := hS.1; omega)).trans (hS.2.1 x h1 h2), hS.2.2⟩ (by rw [z1, List.length_append]; show _ = zgB G + (w.length + 1); omega)
  rw [ztoW_app]
  refine (hP.kept hk).app (fun k x hx => ?_)
  have hz : k < 1 := (List.getElem?_eq_some_iff.mp hx).1
  rw [show k = 0 by omega] at hx
  cases hx
  rw [zconv_obj hci]
  have hs2 := zcl_spec2 hq
  refine ⟨_, hq, (u_born (zty ci) hts hin hKn hkC e1 (fun k hk => (hs2 k hk).1)).to (fun j hj => ?_)⟩
  have hn : znf ci = q.2.2 := (zdes_eq hq 0).2.2
  show defaultValue (zty ci j) = ((zblank ci).map (ztr G)).getD j .null
  rw [(hs2 j hj).2.1]
  unfold zblank
  rw [hn, List.map_map, List.getD_eq_getElem?_getD, List.getElem?_map, List.getElem?_range hj]
  show zdv ci j = ztr G (zdv ci j)
  unfold zdv
  split <;> rfl
theorem znewa {w : zW} {at_ : ArrayType} {ty : FieldType} {t : Nat} {cA0 : ClassId} {n : Int32} {N : Nat} (hexec : p.tables.exec = Jvm.exec) (hb : c.code = cc) (harr : (Cond.arrayClass (newarray.typeOf at_)).before args s = true) (hty : newarray.typeOf at_ = ty)
    (hfind : s.vm.findClass ("[" ++ (newarray.typeOf at_).toString) = some cA0) (hdef : defaultValue ty = .int 0) (hconv : zconv G (t, List.replicate N (.int 0)) = .inl (cA0, N, .inl (zint (List.replicate N (.int 0)))))
    (hP : va_P (zgD G) zcl (ztoW G w) H) (hS : va_S (zA G) s.heap H locs) (hH : H.size = zgB G + w.length) (hn : ¬ n < 0) (hN : n.toNatClampNeg = N) (hbytes : N * componentBytes (newarray.typeOf at_) ≤ 536870912) (hcells : cells + 1 ≤ R.cells) (hslots : slots + N ≤ R.slots) (hdg : decode cc pc = .ok (.newarray at_, 2))
    (kk : ∀ H1 : Heap, va_P (zgD G) zcl (ztoW G (w ++ [(t, List.replicate N (.int 0))])) H1 → va_S (zA G) s.heap H1 locs → H1.size = zgB G + (w ++ [(t, List.replicate N (Value.int 0))]).length →
      W p l e R s m args below meth c H1 locs (cells + 1) (slots + N) Q (F0 m (pc + 2) real (.ref (zgB G + w.length) :: rest))) : W p l e R s m args below meth c H locs cells slots Q (F0 m pc real (.int n :: rest)) := by
  refine va_newaK hexec hb harr rfl hdg rfl hn hN hbytes hcells hslots hH fun H1 cA e1 z1 o1 _ hNm => ?_
  have hcA : cA = cA0 := Option.some.inj (hNm.symm.trans hfind)
  subst hcA
  have hk : ∀ (k : Nat) (x : Nat × va_E), (ztoW G w)[k]? = some x → H1[x.1]? = H[x.1]? := fun k x hx => o1 x.1 (by rw [← hH]; exact (hP k x hx).lt)
  refine kk H1 ?_ ⟨Nat.le_trans hS.1 (by omega), fun x h1 h2 => (o1 x (by have := hS.1; omega)).trans (hS.2.1 x h1 h2), hS.2.2⟩ (by rw [z1, List.length_append]; show _ = zgB G + (w.length + 1); omega)
  rw [ztoW_app]
  refine (hP.kept hk).app (fun k x hx => ?_)
  have hz : k < 1 := (List.getElem?_eq_some_iff.mp hx).1
  rw [show k = 0 by omega] at hx
  cases hx
  rw [hconv]
  show H1[zgB G + w.length]? = some (vp_cell cA (N, .inl (zint (List.replicate N (.int 0)))))
  rw [e1, vp_cell_i, hty, hdef]
  congr 2
  funext j
  unfold zint
  rw [List.getElem?_replicate]
  split <;> rename_i h <;> first | (split at h <;> cases h <;> rfl) | rfl
theorem znewq {own C : String} {index : Nat} {w : zW} {t : Nat} {cA0 : ClassId} {n : Int32} {N : Nat} (hexec : p.tables.exec = Jvm.exec) (hb : c.code = cc) (hown : s.vm.findClass own = some m.cls) (hclink : (Cond.classLink own index C).before args s = true) (hover : va_AO C s)
    (hfind : s.vm.findClass ("[" ++ (FieldType.object C).toString) = some cA0) (hconv : zconv G (t, List.replicate N .null) = .inl (cA0, N, .inr (.inr (.inr (.inr (zref G (List.replicate N .null)))))))
    (hP : va_P (zgD G) zcl (ztoW G w) H) (hS : va_S (zA G) s.heap H locs) (hH : H.size = zgB G + w.length) (hn : ¬ n < 0) (hN : n.toNatClampNeg = N) (hbytes : N * 4 ≤ 536870912) (hcells : cells + 1 ≤ R.cells) (hslots : slots + N ≤ R.slots) (hdg : decode cc pc = .ok (.anewarray index, 3))
    (kk : ∀ H1 : Heap, va_P (zgD G) zcl (ztoW G (w ++ [(t, List.replicate N .null)])) H1 → va_S (zA G) s.heap H1 locs → H1.size = zgB G + (w ++ [(t, List.replicate N Value.null)]).length →
      W p l e R s m args below meth c H1 locs (cells + 1) (slots + N) Q (F0 m (pc + 3) real (.ref (zgB G + w.length) :: rest))) : W p l e R s m args below meth c H locs cells slots Q (F0 m pc real (.int n :: rest)) := by
  subst hN
  refine W.anew hexec hb hown hclink (va_AO.use hover) rfl hdg rfl hn hbytes hcells hslots fun cA kA comp f1 f2 f3 f4 => ?_
  have hcA : cA = cA0 := Option.some.inj (f1.symm.trans hfind)
  subst hcA
  generalize hH1 : H.push ({ cls := cA, slots := Array.replicate n.toNatClampNeg .null, vm := .none } : Cell) = H1
  have z1 : H1.size = H.size + 1 := by rw [← hH1, Array.size_push]
  have e1 : H1[H.size]? = some (arrV cA n.toNatClampNeg (fun _ => .null)) := by rw [← hH1, Array.getElem?_push_size, ← arrV_new]
  have o1 : ∀ q : Nat, q < H.size → H1[q]? = H[q]? := fun q hq => by rw [← hH1, Array.getElem?_push, if_neg (Nat.ne_of_lt hq)]
  have hk : ∀ (k : Nat) (x : Nat × va_E), (ztoW G w)[k]? = some x → H1[x.1]? = H[x.1]? := fun k x hx => o1 x.1 ((hP k x hx).lt)
  have kk2 := kk H1 ?_ ⟨Nat.le_trans hS.1 (by omega), fun x h1 h2 => (o1 x (Nat.lt_of_lt_of_le h1 hS.1)).trans (hS.2.1 x h1 h2), hS.2.2⟩ (by rw [z1, hH, List.length_append]; show _ = zgB G + (w.length + 1); omega)
  · rw [hH]
    exact kk2
  · rw [ztoW_app]
    refine (hP.kept hk).app (fun k x hx => ?_)
    have hz : k < 1 := (List.getElem?_eq_some_iff.mp hx).1
    rw [show k = 0 by omega] at hx
    cases hx
    rw [hconv]
    show H1[zgB G + w.length]? = some (vp_cell cA (n.toNatClampNeg, .inr (.inr (.inr (.inr (zref G (List.replicate n.toNatClampNeg .null)))))))
    rw [← hH, e1, vp_cell_q]
    congr 2
    funext j
    unfold zref
    rw [List.getElem?_replicate]
    split <;> rename_i h <;> first | (split at h <;> cases h <;> rfl) | rfl
end ZSTEP
-- ===== one instruction: the machine does what the small one does =====
theorem zstep_mono {L : Nat} {xs : Nat → Int32} {M : zPM} {i : Instr} {len pc : Nat} {ls : zL} {st : List Value} {w : zW} {pc2 : Nat} {ls2 : zL} {st2 : List Value} {w2 : zW} (h : zStep L xs M i len pc ls st w (.inl (pc2, ls2, st2, w2))) : w.length ≤ w2.length ∧ zsz w ≤ zsz w2 ∧ (w.length ≤ zlim → w2.length ≤ zlim) ∧ ls2.length = ls.length := by
  have same : ∀ {a : Nat} {b : zL} {t : List Value}, (Sum.inl (pc2, ls2, st2, w2) : zSR) = zgo a b t w → b.length = ls.length → w.length ≤ w2.length ∧ zsz w ≤ zsz w2 ∧ (w.length ≤ zlim → w2.length ≤ zlim) ∧ ls2.length = ls.length := by
    intro a b t h hb
    obtain ⟨-, rfl, -, rfl⟩ := zgo_inj h
    exact ⟨Nat.le_refl _, Nat.le_refl _, id, hb⟩
  have store : ∀ {a : Nat} {b : zL} {t : List Value} {o t1 t2 : Nat} {sl sl2 : List Value}, (Sum.inl (pc2, ls2, st2, w2) : zSR) = zgo a b t (w.set o (t2, sl2)) → w[o]? = some (t1, sl) → sl2.length = sl.length → b.length = ls.length → w.length ≤ w2.length ∧ zsz w ≤ zsz w2 ∧ (w.length ≤ zlim → w2.length ≤ zlim) ∧ ls2.length = ls.length := by
    intro a b t o t1 t2 sl sl2 h hw hl hb
    obtain ⟨-, rfl, -, rfl⟩ := zgo_inj h
    rw [List.length_set, zsz_set hw hl]
    exact ⟨Nat.le_refl _, Nat.le_refl _, id, hb⟩
  have push : ∀ {a : Nat} {b : zL} {t : List Value} {c : Nat × List Value}, (Sum.inl (pc2, ls2, st2, w2) : zSR) = zgo a b t (w ++ [c]) → w.length < zlim → b.length = ls.length → w.length ≤ w2.length ∧ zsz w ≤ zsz w2 ∧ (w.length ≤ zlim → w2.length ≤ zlim) ∧ ls2.length = ls.length := by
    intro a b t c h hw hb
    obtain ⟨-, rfl, -, rfl⟩ := zgo_inj h
    rw [zsz_app, List.length_append]
    exact ⟨Nat.le_add_right _ _, Nat.le_add_right _ _, fun _ => hw, hb⟩
  cases i
  case aconst_null => exact same h.2 rfl
  case aload_n k => obtain ⟨-, v, -, -, h⟩ := h; exact same h rfl
  case aload k => obtain ⟨-, v, -, -, h⟩ := h; exact same h rfl
  case iload_n k => obtain ⟨-, v, -, h⟩ := h; exact same h rfl
  case iload k => obtain ⟨-, v, -, h⟩ := h; exact same h rfl
  case lload_n k => obtain ⟨-, v, -, h⟩ := h; exact same h rfl
  case lload k => obtain ⟨-, v, -, h⟩ := h; exact same h rfl
  case iconst n => exact same h.2 rfl
  case bipush n => exact same h.2 rfl
  case sipush n => exact same h.2 rfl
  case lconst n => exact same h.2 rfl
  case ldc ix => rcases h with ⟨-, ⟨v, -, h⟩ | ⟨-, -, h⟩⟩ <;> exact same h rfl
  case ldc_w ix => obtain ⟨-, v, -, h⟩ := h; exact same h rfl
  case ldc2_w ix => obtain ⟨-, v, -, h⟩ := h; exact same h rfl
  case istore_n k => obtain ⟨-, x, rest, -, -, -, h⟩ := h; exact same h (List.length_set ..)
  case istore k => obtain ⟨-, x, rest, -, -, -, h⟩ := h; exact same h (List.length_set ..)
  case astore_n k => obtain ⟨-, x, rest, -, -, -, -, h⟩ := h; exact same h (List.length_set ..)
  case astore k => obtain ⟨-, x, rest, -, -, -, -, h⟩ := h; exact same h (List.length_set ..)
  case iinc k n => obtain ⟨-, x, -, -, h⟩ := h; exact same h (List.length_set ..)
  case iadd => obtain ⟨-, x, y, rest, -, h⟩ := h; exact same h rfl
  case isub => obtain ⟨-, x, y, rest, -, h⟩ := h; exact same h rfl
  case imul => obtain ⟨-, x, y, rest, -, h⟩ := h; exact same h rfl
  case idiv => obtain ⟨-, x, y, rest, -, -, h⟩ := h; exact same h rfl
  case irem => obtain ⟨-, x, y, rest, -, -, h⟩ := h; exact same h rfl
  case iand => obtain ⟨-, x, y, rest, -, h⟩ := h; exact same h rfl
  case ior => obtain ⟨-, x, y, rest, -, h⟩ := h; exact same h rfl
  case ixor => obtain ⟨-, x, y, rest, -, h⟩ := h; exact same h rfl
  case ishl => obtain ⟨-, x, y, rest, -, h⟩ := h; exact same h rfl
  case ishr => obtain ⟨-, x, y, rest, -, h⟩ := h; exact same h rfl
  case iushr => obtain ⟨-, x, y, rest, -, h⟩ := h; exact same h rfl
  case ineg => obtain ⟨-, x, rest, -, h⟩ := h; exact same h rfl
  case i2l => obtain ⟨-, x, rest, -, h⟩ := h; exact same h rfl
  case lcmp => obtain ⟨-, x, y, rest, -, h⟩ := h; exact same h rfl
  case dup => obtain ⟨-, v, rest, -, -, h⟩ := h; exact same h rfl
  case dup2 => obtain ⟨-, v, u, rest, -, -, -, h⟩ := h; exact same h rfl
  case pop => obtain ⟨-, v, rest, -, -, h⟩ := h; exact same h rfl
  case ifCond cd off => obtain ⟨-, x, rest, tgt, -, -, ⟨-, h⟩ | ⟨-, h⟩⟩ := h <;> exact same h rfl
  case if_icmp cd off => obtain ⟨-, x, y, rest, tgt, -, -, ⟨-, h⟩ | ⟨-, h⟩⟩ := h <;> exact same h rfl
  case ifnull off => obtain ⟨-, ⟨rest, tgt, -, -, h⟩ | ⟨a, rest, -, h⟩⟩ := h <;> exact same h rfl
  case ifnonnull off => obtain ⟨-, ⟨a, rest, tgt, -, -, h⟩ | ⟨rest, -, h⟩⟩ := h <;> exact same h rfl
  case goto off => obtain ⟨-, tgt, -, h⟩ := h; exact same h rfl
  case tableswitch d lo hi offs => obtain ⟨x, rest, tgt, -, -, h⟩ := h; exact same h rfl
  case getfield ix => obtain ⟨-, o, rest, ci, k, fs, v, -, -, -, -, h⟩ := h; exact same h rfl
  case putfield ix => obtain ⟨-, v, o, rest, ci, k, fs, -, -, ho, -, -, -, h⟩ := h; exact store h ho (List.length_set ..) rfl
  case iaload => obtain ⟨-, j, o, rest, -, ⟨sl, x, -, -, -, h⟩ | ⟨-, -, h⟩⟩ := h <;> exact same h rfl
  case iastore => obtain ⟨-, x, j, o, rest, sl, -, ho, -, h⟩ := h; exact store h ho (List.length_set ..) rfl
  case baload => obtain ⟨-, j, o, rest, sl, x, -, -, -, -, h⟩ := h; exact same h rfl
  case bastore => obtain ⟨-, x, j, o, rest, sl, -, -, ho, -, h⟩ := h; exact store h ho (List.length_set ..) rfl
  case aaload => obtain ⟨-, j, o, rest, t, sl, v, -, -, -, -, -, -, h⟩ := h; exact same h rfl
  case aastore => obtain ⟨-, q, j, o, rest, t, sl, ci, fs, -, -, -, -, ho, -, h⟩ := h; exact store h ho (List.length_set ..) rfl
  case arraylength => obtain ⟨-, o, rest, -, ⟨t, sl, -, -, -, h⟩ | ⟨-, h⟩⟩ := h <;> exact same h rfl
  case new ix => obtain ⟨-, ci, -, hw, h⟩ := h; exact push h hw rfl
  case newarray a => obtain ⟨-, n, rest, t, -, -, -, -, hw, h⟩ := h; exact push h hw rfl
  case anewarray ix => obtain ⟨-, n, rest, ci, -, -, -, -, -, hw, h⟩ := h; exact push h hw rfl
  case invokevirtual ix => obtain ⟨-, j, As, o, rest, N, -, -, -, -, -, -, h⟩ := h; cases h
  case invokespecial ix =>
    rcases h with ⟨-, ⟨o, rest, -, -, -, h⟩ | ⟨j, As, o, rest, N, -, -, -, -, -, -, -, h⟩⟩
    · exact same h rfl
    · cases h
  case invokestatic ix =>
    rcases h with ⟨-, ⟨x, y, rest, -, -, -, h⟩ | ⟨x, y, rest, -, -, -, h⟩ | ⟨j, As, rest, N, -, -, -, -, -, h⟩⟩
    · exact same h rfl
    · exact same h rfl
    · cases h
  case ireturn => obtain ⟨-, x, -, -, h⟩ := h; cases h
  case areturn => obtain ⟨-, v, n, -, -, -, h⟩ := h; cases h
  case return_ => obtain ⟨-, -, -, h⟩ := h; cases h
  all_goals exact False.elim h
end
section
theorem zconv_20 {G : zG} {sl : List Value} : zconv G (20, sl) = .inl (zgI G, sl.length, .inl (zint sl)) := rfl
theorem zconv_21 {G : zG} {sl : List Value} : zconv G (21, sl) = .inl (zgZ G, sl.length, .inl (zint sl)) := rfl
theorem zconv_22 {G : zG} {sl : List Value} : zconv G (22, sl) = .inl (zgS G, sl.length, .inr (.inr (.inr (.inr (zref G sl))))) := rfl
theorem zconv_23 {G : zG} {sl : List Value} : zconv G (23, sl) = .inl (zgN G, sl.length, .inr (.inr (.inr (.inr (zref G sl))))) := rfl
theorem zarr_i : Cond.arrayClass (newarray.typeOf .int) ∈ zTB := zok_in (k := 108) (by decide +kernel)
theorem zarr_z : Cond.arrayClass (newarray.typeOf .boolean) ∈ zTB := zok_in (k := 1066) (by decide +kernel)
theorem zmath_init : Cond.initialized "java/lang/Math" ∈ zTB := by
  have h : (zok 82 (Cond.initialized "java/lang/Math")) = true := by decide +kernel
  exact zok_in h
theorem zpm_in {j : Nat} {N : zPM} (h : zpms[j]? = some N) : zmk N ∈ zTB := zcode_in (List.mem_of_getElem? h)
theorem zobj_code : Cond.code Lib.objectInit ⟨#[0xb1]⟩ 1 none ∈ zTB := zpm_in (j := 1) (N := (Lib.objectInit, ⟨#[0xb1]⟩, 1, none, 99)) rfl
set_option maxRecDepth 100000 in
theorem zmax_code : Cond.code Lib.Math.max.name Lib.Math.max.code 2 (some .int) ∈ zTB := zpm_in (j := 106) (N := (Lib.Math.max.name, Lib.Math.max.code, 2, some .int, 99)) rfl
set_option maxRecDepth 100000 in
theorem zmin_code : Cond.code Lib.Math.min.name Lib.Math.min.code 2 (some .int) ∈ zTB := zpm_in (j := 81) (N := (Lib.Math.min.name, Lib.Math.min.code, 2, some .int, 99)) rfl
section ZST
variable {p : Program} {l : Launch} {e : Env} {R : Room} {s : State} {m : MethodId} {args : Array Value} {below : List Frame} {meth : Method} {c : Code} {H : Heap} {locs : List Loc} {cells slots : Nat} {Q : State → Prop}
variable {cc : ByteArray} {pc : Nat} {real : Array Slot} {rest : List Value} {G : zG} {w : zW} {o : Nat} {sl : List Value}
theorem ziast (hexec : p.tables.exec = Jvm.exec) (hb : c.code = cc) (hK : va_K (zgD G) zcl (ztys G) s) (hP : va_P (zgD G) zcl (ztoW G w) H) (hS : va_S (zA G) s.heap H locs) (hH : H.size = zgB G + w.length) (ho : w[o]? = some (20, sl)) {j x : Int32} (hin : vp_in j sl.length) (hdg : decode cc pc = .ok (.iastore, 1))
    (kk : ∀ (H1 : Heap) (locs1 : List Loc), va_P (zgD G) zcl (ztoW G (w.set o (20, sl.set j.toNatClampNeg (.int x)))) H1 → va_S (zA G) s.heap H1 locs1 → H1.size = zgB G + w.length → W p l e R s m args below meth c H1 locs1 cells slots Q (F0 m (pc + 1) real rest)) : W p l e R s m args below meth c H locs cells slots Q (F0 m pc real (.int x :: .int j :: .ref (zgB G + o) :: rest)) := by
  have ha : (ztoW G w)[o]? = some (zgB G + o, .inl (zgI G, sl.length, .inl (zint sl))) := ztoW_get ho
  have hj : j.toNatClampNeg < sl.length := Nat.not_le.mp fun q => hin (Or.inr q)
  have hD := zDok (G := G) (w := w)
  refine W.iast hexec hb (hP o _ ha) ((hK.2 0 _ rfl).1 sl.length (fun j => .int (zint sl j))) (fun q => by cases q) (by show ¬ (j < 0 ∨ (arrV _ _ _).slots.size ≤ _); rw [arrV_size]; exact hin) rfl rfl hdg fun H1 e1 z oq => ?_
  refine kk H1 _ ?_ (hS.put z oq (hD.2 o _ ha)) (z.trans hH)
  rw [ztoW_set]
  refine hP.set hD ha ?_ oq
  rw [zconv_20, List.length_set, zint_set hj]
  show H1[zgB G + o]? = some (vp_cell _ _)
  rw [e1]
  rw [vp_cell_i, vp_cell_i, arrV_store]
  congr 2
  funext q
  by_cases hq : q = j.toNatClampNeg
  · subst hq
    simp [updV, upd]
  · simp [updV, upd, hq]
theorem zzast (hexec : p.tables.exec = Jvm.exec) (hb : c.code = cc) (hK : va_K (zgD G) zcl (ztys G) s) (hP : va_P (zgD G) zcl (ztoW G w) H) (hS : va_S (zA G) s.heap H locs) (hH : H.size = zgB G + w.length) (ho : w[o]? = some (21, sl)) {j x : Int32} (hin : vp_in j sl.length) (hx : x = 0 ∨ x = 1) (hdg : decode cc pc = .ok (.bastore, 1))
    (kk : ∀ (H1 : Heap) (locs1 : List Loc), va_P (zgD G) zcl (ztoW G (w.set o (21, sl.set j.toNatClampNeg (.int x)))) H1 → va_S (zA G) s.heap H1 locs1 → H1.size = zgB G + w.length → W p l e R s m args below meth c H1 locs1 cells slots Q (F0 m (pc + 1) real rest)) : W p l e R s m args below meth c H locs cells slots Q (F0 m pc real (.int x :: .int j :: .ref (zgB G + o) :: rest)) := by
  have ha : (ztoW G w)[o]? = some (zgB G + o, .inl (zgZ G, sl.length, .inl (zint sl))) := ztoW_get ho
  have hj : j.toNatClampNeg < sl.length := Nat.not_le.mp fun q => hin (Or.inr q)
  have hD := zDok (G := G) (w := w)
  have hnar : narrow .boolean (.int x) = .int x := by rcases hx with rfl | rfl <;> decide
  refine W.zast hexec hb (hP o _ ha) ((hK.2 1 _ rfl).1 sl.length (fun j => .int (zint sl j))) (fun q => by cases q) (by show ¬ (j < 0 ∨ (arrV _ _ _).slots.size ≤ _); rw [arrV_size]; exact hin) rfl rfl hdg fun H1 e1 z oq => ?_
  refine kk H1 _ ?_ (hS.put z oq (hD.2 o _ ha)) (z.trans hH)
  rw [ztoW_set]
  refine hP.set hD ha ?_ oq
  rw [zconv_21, List.length_set, zint_set hj]
  show H1[zgB G + o]? = some (vp_cell _ _)
  rw [e1, hnar]
  rw [vp_cell_i, vp_cell_i, arrV_store]
  congr 2
  funext q
  by_cases hq : q = j.toNatClampNeg
  · subst hq
    simp [updV, upd]
  · simp [updV, upd, hq]
theorem zqast {ci tk t q : Nat} {r : vw_C} {fs : List Value} {cA : ClassId} (hexec : p.tables.exec = Jvm.exec) (hb : c.code = cc) (hK : va_K (zgD G) zcl (ztys G) s) (hP : va_P (zgD G) zcl (ztoW G w) H) (hS : va_S (zA G) s.heap H locs) (hH : H.size = zgB G + w.length)
    (hc : zcl[ci]? = some r) (ht : (ztys G)[tk]? = some (cA, .object r.1)) (hci : ci < 11) (htz : t = zacl ci) (eq : zad G q = zgB G + q) (hq : w[q]? = some (ci, fs)) (ho : w[o]? = some (zacl ci, sl)) (hcv : zconv G (t, sl) = .inl (cA, sl.length, .inr (.inr (.inr (.inr (zref G sl)))))) {j : Int32} (hcv2 : zconv G (t, sl.set j.toNatClampNeg (.ref q)) = .inl (cA, (sl.set j.toNatClampNeg (.ref q)).length, .inr (.inr (.inr (.inr (zref G (sl.set j.toNatClampNeg (.ref q)))))))) (hin : vp_in j sl.length) (hdg : decode cc pc = .ok (.aastore, 1))
    (kk : ∀ (H1 : Heap) (locs1 : List Loc), va_P (zgD G) zcl (ztoW G (w.set o (zacl ci, sl.set j.toNatClampNeg (.ref q)))) H1 → va_S (zA G) s.heap H1 locs1 → H1.size = zgB G + w.length → W p l e R s m args below meth c H1 locs1 cells slots Q (F0 m (pc + 1) real rest)) : W p l e R s m args below meth c H locs cells slots Q (F0 m pc real (.ref (zgB G + q) :: .int j :: .ref (zgB G + o) :: rest)) := by
  subst htz
  have ha : (ztoW G w)[o]? = some (zgB G + o, .inl (cA, sl.length, .inr (.inr (.inr (.inr (zref G sl)))))) := by rw [ztoW_get ho, hcv]
  have hv : (ztoW G w)[q]? = some (zgB G + q, .inr (ci, fs.map (ztr G))) := by rw [ztoW_get hq, zconv_obj hci]
  have hj : j.toNatClampNeg < sl.length := Nat.not_le.mp fun q => hin (Or.inr q)
  have h0 : ¬ j < 0 := fun q => hin (Or.inl q)
  have hD := zDok (G := G) (w := w)
  obtain ⟨r', hr', cellV, g1, g2, g3, -⟩ := hP q _ hv
  have hcls := (hK.1 ci r hc).2
  obtain ⟨kA, comp, k1, k2, k3, -⟩ := (hK.2 tk _ ht).2
  have hcomp : comp = (zgD G).1 ci := Option.some.inj (k3.symm.trans hcls.1)
  subst hcomp
  obtain ⟨kC, hkC, -⟩ := hcls.2
  refine W.aast hexec hb (hP o _ ha) (fun q h => by cases h) (fun h => by cases h) k1 k2 rfl hkC ⟨h0, by show _ < (arrV _ _ _).slots.size; rw [arrV_size]; exact hj⟩ g1 (fun q h => by rw [g3] at h; cases h) (by rw [g2]; exact hkC) (by rw [g2]; exact va_assign hcls) rfl rfl hdg fun H1 e1 z oq => ?_
  refine kk H1 _ ?_ (hS.put z oq (hD.2 o _ ha)) (z.trans hH)
  rw [ztoW_set]
  refine hP.set hD ha ?_ oq
  rw [hcv2, List.length_set, zref_set hj, eq]
  show H1[zgB G + o]? = some (vp_cell _ _)
  rw [e1]
  rw [vp_cell_q, vp_cell_q, arrV_store]
  congr 2
  funext q2
  by_cases hq2 : q2 = j.toNatClampNeg
  · subst hq2
    simp [updV, va_up, va_rf]
  · simp [updV, va_up, hq2]
theorem zput {M : zPM} {ix ci k : Nat} {q : vw_C} {fs : List Value} {v : Value} (hexec : p.tables.exec = Jvm.exec) (hb : c.code = cc) (hts : ∀ w ∈ zTB, w.before args s = true) (hown : s.vm.findClass (zcn M.2.2.2.2) = some m.cls) (hcn : zcn M.2.2.2.2 = M.1.cls) (hname : M.1.name = "<init>" → meth.name = "<init>") (hNW : ∀ w ∈ zNW, va_Nw w s)
    (hK : va_K (zgD G) zcl (ztys G) s) (hP : va_P (zgD G) zcl (ztoW G w) H) (hS : va_S (zA G) s.heap H locs) (hH : H.size = zgB G + w.length)
    (hq : zcl[ci]? = some q) (hkq : k < q.2.2) (hlk : Cond.fieldLink (zcn M.2.2.2.2) ix q.1 (q.2.1 k).2.1 (q.2.1 k).2.2.1 ∈ zTB ∨ ∃ ho, Cond.fieldLinkNest (zcn M.2.2.2.2) ix q.1 (q.2.1 k).2.1 (q.2.1 k).2.2.1 ho ∈ zNW) (ho : w[o]? = some (ci, fs)) (hk : k < fs.length) (hfit : zfit ci k v = true) (hfin : zfin ci k = true → M.1.name = "<init>" ∧ zcn ci = M.1.cls) (hdg : decode cc pc = .ok (.putfield ix, 3))
    (kk : ∀ (H1 : Heap) (locs1 : List Loc), va_P (zgD G) zcl (ztoW G (w.set o (ci, fs.set k v))) H1 → va_S (zA G) s.heap H1 locs1 → H1.size = zgB G + w.length → W p l e R s m args below meth c H1 locs1 cells slots Q (F0 m (pc + 3) real rest)) : W p l e R s m args below meth c H locs cells slots Q (F0 m pc real (ztr G v :: .ref (zgB G + o) :: rest)) := by
  have hci := zcl_lt hq
  obtain ⟨e1, -, -, e4, e5⟩ := zcl_spec hq
  have s2 := zcl_spec2 hq
  obtain ⟨d1, d2, -⟩ := zdes_eq hq k
  have he : (ztoW G w)[o]? = some (zgB G + o, .inr (ci, fs.map (ztr G))) := by rw [ztoW_get ho, zconv_obj hci]
  have hD := zDok (G := G) (w := w)
  have hd0 : parseFieldDescriptor (q.2.1 k).2.2.1 = some (zty ci k) := (s2 k hkq).1
  have hnf : narrow (zty ci k) (ztr G v) = ztr G v ∧ fits (zty ci k) (ztr G v) = true := by
    unfold zfit at hfit
    by_cases hI : zdes ci k = "I"
    · rw [if_pos hI] at hfit
      rw [(s2 k hkq).2.2.1 hI]
      cases v <;> first | exact ⟨rfl, rfl⟩ | (simp at hfit)
    · rw [if_neg hI] at hfit
      rcases (s2 k hkq).2.2.2.1 hI with ⟨n, hn⟩ | ⟨n, hn⟩ <;> rw [hn] <;> rcases zrv_cases hfit with ⟨a, rfl⟩ | rfl <;> exact ⟨rfl, rfl⟩
  have hap := va_apart (own := zcn M.2.2.2.2) hts e4 (zty ci) (fun k hk => (s2 k hk).1) (fun a ha b hb hab => (s2 b hb).2.2.2.2 a ha hab) hK hq
  have hset : (fs.set k v).map (ztr G) = (fs.map (ztr G)).set k (ztr G v) := List.map_set
  have hl : k < (fs.map (ztr G)).length := by rw [List.length_map]; exact hk
  have hsame : ∀ x, s.fieldFound? (q.2.1 k).1 (q.2.1 k).2.1 (q.2.1 k).2.2.1 = some x → s.fieldFound? q.1 (q.2.1 k).2.1 (q.2.1 k).2.2.1 = some x := fun x hx2 => by rw [← hx2]; exact congrArg (fun z => s.fieldFound? z _ _) (e5 k hkq).symm
  obtain ⟨r, h1, cell, q1, q2, q3, q4⟩ := hP o _ he
  have hr : r = q := Option.some.inj (h1.symm.trans hq)
  subst hr
  obtain ⟨hS1, hfc, kC, hkC, hkind⟩ := hK.1 ci _ hq
  obtain ⟨cf, kf, fi, f, hi, hsl⟩ := hS1 k hkq
  have hst := (u_facts hfc hkC (u_lays hts e4 hkq) hi).1
  have fin : ∀ H' : Heap, H'[zgB G + o]? = some (cell.setSlot f.slot (ztr G v)) → H'.size = H.size → (∀ x, x ≠ zgB G + o → H'[x]? = H[x]?) → W p l e R s m args below meth c H' (locs ++ [⟨zgB G + o, f.slot⟩]) cells slots Q (F0 m (pc + 3) real rest) := by
    intro H' e1' e2 e3
    rw [hsl] at e1' ⊢
    refine kk H' _ ?_ (hS.put e2 e3 (hD.2 o _ he)) (e2.trans hH)
    rw [ztoW_set, zconv_obj hci, hset]
    exact hP.set hD he ⟨_, hq, t_OB.to (V := updV (vp_V (fs.map (ztr G))) k (ztr G v)) ⟨_, e1', q2, q3, t_set q4 hap hkq (ztr G v)⟩ (fun j _ => vp_updV_set hl (ztr G v) j)⟩ e3
  by_cases hf : zfin ci k = true
  · obtain ⟨hin2, hcc⟩ := hfin hf
    have hlay := hts _ (e4 _ (u_in_lay hkq))
    unfold u_lay at hlay
    rw [if_pos (by rw [← d2]; exact hf)] at hlay
    have hcf : m.cls = cf := by
      obtain ⟨_, _, c', _, _, _, -, -, hf', -, -, -, hown2, -⟩ := Cond.laysFinal_spec hlay
      have e1' : c' = cf := by have := hi.symm.trans hf'; simp at this; exact this.1.symm
      rw [e5 k hkq, e1, hcc, ← hcn] at hown2
      rw [← e1']; exact Option.some.inj (hown.symm.trans hown2)
    have h6 := u_fits hfc hkC hkind (Or.inr hlay) hi hd0 hnf.1 hnf.2
    rcases hlk with hlk | ⟨host, hlk⟩
    · exact W.putFinK hexec hb hown (hts _ hlk) (hsame _ hi) hst hcf (hname hin2) (by rw [q2]; exact h6) q1 q3 (by rw [hsl]; exact k2_hasslot (q4 k hkq)) rfl rfl hdg fin
    · refine va_Wputf hexec hb hown (va_Nw.use rfl (hNW _ hlk)) (hsame _ hi) hst (Or.inr ⟨hcf, hname hin2⟩) q1 (by rw [q3]; exact fun h => by cases h) (by rw [hsl]; exact k2_hasslot (q4 k hkq)) h6.1 (by rw [q2, q3]; exact h6.2) rfl rfl hdg (fin _ ?_ ?_ ?_)
      · have := (Array.getElem?_eq_some_iff.mp q1).1
        simp [Array.getElem?_setIfInBounds, this]
      · simp
      · intro x hx
        simp [Array.getElem?_setIfInBounds, Ne.symm hx]
  · have hlay := hts _ (e4 _ (u_in_lay hkq))
    unfold u_lay at hlay
    rw [if_neg (by rw [← d2]; exact hf)] at hlay
    have h6 := u_store hfc hkC hkind hlay hi hd0 hnf.1 hnf.2
    rcases hlk with hlk | ⟨host, hlk⟩
    · exact W.putK hexec hb (f := f) ⟨hown, hts _ hlk, ⟨_, _, _, hsame _ hi⟩, hst⟩ (by rw [q2]; exact h6) q1 q3 (by rw [hsl]; exact k2_hasslot (q4 k hkq)) rfl rfl hdg fin
    · exact va_WputK hexec hb (f := f) hown (va_Nw.use rfl (hNW _ hlk)) (hsame _ hi) hst (by rw [q2]; exact h6) q1 q3 (by rw [hsl]; exact k2_hasslot (q4 k hkq)) rfl rfl hdg fin
end ZST
end
section
section ZSIM
variable {p : Program} {l : Launch} {e : Env} {R : Room} {s : State} {m : MethodId} {args : Array Value} {below : List Frame} {meth : Method} {c : Code} {Q : State → Prop}
variable {G : zG} {M : zPM}
set_option maxHeartbeats 4000000 in
theorem zgo_sound {n0 s0 : Nat} (C : zC G M p s m args meth c) (hfr : 1 ≤ R.frames) (hlo : 35 ≤ R.locals)
    {i : Instr} {len pc : Nat} {ls : zL} {st : List Value} {w : zW} {pc2 : Nat} {ls2 : zL} {st2 : List Value} {w2 : zW} (hd : decode M.2.1 pc = .ok (i, len)) (h : zStep (zgL G) (zgx G) M i len pc ls st w (.inl (pc2, ls2, st2, w2)))
    (hn : n0 ≤ w.length) (hz : s0 ≤ zsz w) (hcel : w2.length - n0 ≤ R.cells) (hslo : zsz w2 - s0 ≤ R.slots) (hlim : w.length ≤ zlim)
    {H : Heap} {locs : List Loc} {real : Array Slot} (hP : va_P (zgD G) zcl (ztoW G w) H) (hS : va_S (zA G) s.heap H locs) (hH : H.size = zgB G + w.length) (hl : zls G M.2.2.1 ls real)
    (kk : ∀ (H2 : Heap) (locs2 : List Loc) (real2 : Array Slot), va_P (zgD G) zcl (ztoW G w2) H2 → va_S (zA G) s.heap H2 locs2 → H2.size = zgB G + w2.length → zls G M.2.2.1 ls2 real2 → W p l e R s m args below meth c H2 locs2 (w2.length - n0) (zsz w2 - s0) Q (F0 m pc2 real2 (st2.map (ztr G)))) :
    W p l e R s m args below meth c H locs (w.length - n0) (zsz w - s0) Q (F0 m pc real (st.map (ztr G))) := by
  obtain ⟨hx, hb, hml, hts, hown, hname, hcn, hSt, hB⟩ := C
  obtain ⟨hX, hbB, hStr, hK, hNW, hAO1, hAO2⟩ := hSt
  have hbl : zgb G < s.heap.size := by
    obtain ⟨scr, h1, -⟩ := hX
    exact (Array.getElem?_eq_some_iff.mp h1).1
  have hbA : ¬ zA G (zgb G) := Nat.not_le.mpr hbB
  have hD := zDok (G := G) (w := w)
  have hA : ∀ q, s.heap.size ≤ q → zA G q := fun q h => Nat.le_trans hB h
  cases i
  case aconst_null =>
    obtain ⟨rfl, h⟩ := h
    obtain ⟨rfl, rfl, rfl, rfl⟩ := zgo_inj h
    exact lv_null hx hb hd (kk _ _ _ hP hS hH hl)
  case aload_n k =>
    obtain ⟨rfl, v, hv, hr, h⟩ := h
    obtain ⟨rfl, rfl, rfl, rfl⟩ := zgo_inj h
    have hv2 := zld hl hv
    rcases zrv_cases hr with ⟨a, rfl⟩ | rfl
    · exact lv_aload_n hx hb hd rfl hv2 (kk _ _ _ hP hS hH hl)
    · exact lv_aload_nN hx hb hd rfl hv2 (kk _ _ _ hP hS hH hl)
  case aload k =>
    obtain ⟨rfl, v, hv, hr, h⟩ := h
    obtain ⟨rfl, rfl, rfl, rfl⟩ := zgo_inj h
    have hv2 := zld hl hv
    rcases zrv_cases hr with ⟨a, rfl⟩ | rfl
    · exact lv_aload hx hb hd hv2 (kk _ _ _ hP hS hH hl)
    · exact lv_aloadN hx hb hd hv2 (kk _ _ _ hP hS hH hl)
  case iload_n k =>
    obtain ⟨rfl, x, hv, h⟩ := h
    obtain ⟨rfl, rfl, rfl, rfl⟩ := zgo_inj h
    exact lv_iload_n hx hb hd rfl (zld hl hv) (kk _ _ _ hP hS hH hl)
  case iload k =>
    obtain ⟨rfl, x, hv, h⟩ := h
    obtain ⟨rfl, rfl, rfl, rfl⟩ := zgo_inj h
    exact lv_iload hx hb hd (zld hl hv) (kk _ _ _ hP hS hH hl)
  case lload_n k =>
    obtain ⟨rfl, x, hv, h⟩ := h
    obtain ⟨rfl, rfl, rfl, rfl⟩ := zgo_inj h
    exact lv_lload_n hx hb hd rfl (zld hl hv) (kk _ _ _ hP hS hH hl)
  case lload k =>
    obtain ⟨rfl, x, hv, h⟩ := h
    obtain ⟨rfl, rfl, rfl, rfl⟩ := zgo_inj h
    exact lv_lload hx hb hd (zld hl hv) (kk _ _ _ hP hS hH hl)
  case iconst n =>
    obtain ⟨rfl, h⟩ := h
    obtain ⟨rfl, rfl, rfl, rfl⟩ := zgo_inj h
    exact lv_iconst hx hb hd rfl (kk _ _ _ hP hS hH hl)
  case bipush n =>
    obtain ⟨rfl, h⟩ := h
    obtain ⟨rfl, rfl, rfl, rfl⟩ := zgo_inj h
    exact lv_bipush hx hb hd rfl (kk _ _ _ hP hS hH hl)
  case sipush n =>
    obtain ⟨rfl, h⟩ := h
    obtain ⟨rfl, rfl, rfl, rfl⟩ := zgo_inj h
    exact lv_sipush hx hb hd rfl (kk _ _ _ hP hS hH hl)
  case lconst n =>
    obtain ⟨rfl, h⟩ := h
    obtain ⟨rfl, rfl, rfl, rfl⟩ := zgo_inj h
    exact lv_lconst hx hb hd rfl (kk _ _ _ hP hS hH hl)
  case ldc ix =>
    obtain ⟨rfl, ⟨v, hv, h⟩ | ⟨ho, rfl, h⟩⟩ := h
    · obtain ⟨rfl, rfl, rfl, rfl⟩ := zgo_inj h
      exact lv_ldc hx hb hown (hts _ (zix_spec hv)) hd (kk _ _ _ hP hS hH hl)
    · obtain ⟨rfl, rfl, rfl, rfl⟩ := zgo_inj h
      rw [ho] at hown
      have ea : zad G zSTR = zgs G := rfl
      have k1 := kk _ _ _ hP hS hH hl
      have k2 : W p l e R s m args below meth c H locs (w2.length - n0) (zsz w2 - s0) Q (F0 m (pc + 2) real (.ref (zgs G) :: st.map (ztr G))) := by rw [← ea]; exact k1
      exact va_ldcS hx hb (own := "AdjectiveCoupons$Text") (tx := ztx) hown hStr.2.1 hd k2
  case ldc_w ix =>
    obtain ⟨rfl, v, hv, h⟩ := h
    obtain ⟨rfl, rfl, rfl, rfl⟩ := zgo_inj h
    exact lv_ldcw hx hb hown (hts _ (zix_spec hv)) hd (kk _ _ _ hP hS hH hl)
  case ldc2_w ix =>
    obtain ⟨rfl, v, hv, h⟩ := h
    obtain ⟨rfl, rfl, rfl, rfl⟩ := zgo_inj h
    exact lv_ldc2 hx hb hown (hts _ (zlx_spec hv)) hd (kk _ _ _ hP hS hH hl)
  case istore_n k =>
    obtain ⟨rfl, x, rest, rfl, hnl, hk, h⟩ := h
    obtain ⟨rfl, rfl, rfl, rfl⟩ := zgo_inj h
    have hk2 : (k : Nat) < M.2.2.1 := by rw [← hl.1]; exact hk
    exact lv_istore_n hx hb hd rfl (zls_has hl) hk2 rfl (fun r2 h2 => kk _ _ _ hP hS hH (zls_set hl hnl hk2 h2))
  case istore k =>
    obtain ⟨rfl, x, rest, rfl, hnl, hk, h⟩ := h
    obtain ⟨rfl, rfl, rfl, rfl⟩ := zgo_inj h
    have hk2 : k < M.2.2.1 := by rw [← hl.1]; exact hk
    exact lv_istore hx hb hd (zls_has hl) hk2 rfl (fun r2 h2 => kk _ _ _ hP hS hH (zls_set hl hnl hk2 h2))
  case astore_n k =>
    obtain ⟨rfl, v, rest, rfl, hr, hnl, hk, h⟩ := h
    obtain ⟨rfl, rfl, rfl, rfl⟩ := zgo_inj h
    have hk2 : (k : Nat) < M.2.2.1 := by rw [← hl.1]; exact hk
    rcases zrv_cases hr with ⟨a, rfl⟩ | rfl
    · exact lv_astore_n hx hb hd rfl (zls_has hl) hk2 rfl (fun r2 h2 => kk _ _ _ hP hS hH (zls_set hl hnl hk2 h2))
    · exact lv_astore_nN hx hb hd rfl (zls_has hl) hk2 rfl (fun r2 h2 => kk _ _ _ hP hS hH (zls_set hl hnl hk2 h2))
  case astore k =>
    obtain ⟨rfl, v, rest, rfl, hr, hnl, hk, h⟩ := h
    obtain ⟨rfl, rfl, rfl, rfl⟩ := zgo_inj h
    have hk2 : k < M.2.2.1 := by rw [← hl.1]; exact hk
    rcases zrv_cases hr with ⟨a, rfl⟩ | rfl
    · exact lv_astore hx hb hd (zls_has hl) hk2 rfl (fun r2 h2 => kk _ _ _ hP hS hH (zls_set hl hnl hk2 h2))
    · exact lv_astoreN hx hb hd (zls_has hl) hk2 rfl (fun r2 h2 => kk _ _ _ hP hS hH (zls_set hl hnl hk2 h2))
  case iinc k n =>
    obtain ⟨rfl, x, hv, hnl, h⟩ := h
    obtain ⟨rfl, rfl, rfl, rfl⟩ := zgo_inj h
    have hk2 : k < M.2.2.1 := by rw [← hl.1]; exact (List.getElem?_eq_some_iff.mp hv).1
    obtain ⟨j, hj⟩ := zls_idx (G := G) hv
    exact lv_iinc hx hb hd (zls_has hl) hj rfl hk2 rfl (fun r2 h2 => kk _ _ _ hP hS hH (zls_set hl hnl hk2 h2))
  case iadd =>
    obtain ⟨rfl, x, y, rest, rfl, h⟩ := h
    obtain ⟨rfl, rfl, rfl, rfl⟩ := zgo_inj h
    exact lv_iadd hx hb hd (kk _ _ _ hP hS hH hl)
  case isub =>
    obtain ⟨rfl, x, y, rest, rfl, h⟩ := h
    obtain ⟨rfl, rfl, rfl, rfl⟩ := zgo_inj h
    exact lv_isub hx hb hd (kk _ _ _ hP hS hH hl)
  case imul =>
    obtain ⟨rfl, x, y, rest, rfl, h⟩ := h
    obtain ⟨rfl, rfl, rfl, rfl⟩ := zgo_inj h
    exact lv_imul hx hb hd (kk _ _ _ hP hS hH hl)
  case idiv =>
    obtain ⟨rfl, x, y, rest, rfl, hy, h⟩ := h
    obtain ⟨rfl, rfl, rfl, rfl⟩ := zgo_inj h
    exact lv_idiv hx hb hd hy (kk _ _ _ hP hS hH hl)
  case irem =>
    obtain ⟨rfl, x, y, rest, rfl, hy, h⟩ := h
    obtain ⟨rfl, rfl, rfl, rfl⟩ := zgo_inj h
    exact lv_irem hx hb hd hy (kk _ _ _ hP hS hH hl)
  case iand =>
    obtain ⟨rfl, x, y, rest, rfl, h⟩ := h
    obtain ⟨rfl, rfl, rfl, rfl⟩ := zgo_inj h
    exact lv_iand hx hb hd (kk _ _ _ hP hS hH hl)
  case ior =>
    obtain ⟨rfl, x, y, rest, rfl, h⟩ := h
    obtain ⟨rfl, rfl, rfl, rfl⟩ := zgo_inj h
    exact lv_ior hx hb hd (kk _ _ _ hP hS hH hl)
  case ixor =>
    obtain ⟨rfl, x, y, rest, rfl, h⟩ := h
    obtain ⟨rfl, rfl, rfl, rfl⟩ := zgo_inj h
    exact lv_ixor hx hb hd (kk _ _ _ hP hS hH hl)
  case ishl =>
    obtain ⟨rfl, x, y, rest, rfl, h⟩ := h
    obtain ⟨rfl, rfl, rfl, rfl⟩ := zgo_inj h
    exact lv_ishl hx hb hd (kk _ _ _ hP hS hH hl)
  case ishr =>
    obtain ⟨rfl, x, y, rest, rfl, h⟩ := h
    obtain ⟨rfl, rfl, rfl, rfl⟩ := zgo_inj h
    exact lv_ishr hx hb hd (kk _ _ _ hP hS hH hl)
  case iushr =>
    obtain ⟨rfl, x, y, rest, rfl, h⟩ := h
    obtain ⟨rfl, rfl, rfl, rfl⟩ := zgo_inj h
    exact lv_iushr hx hb hd rfl (kk _ _ _ hP hS hH hl)
  case ineg =>
    obtain ⟨rfl, x, rest, rfl, h⟩ := h
    obtain ⟨rfl, rfl, rfl, rfl⟩ := zgo_inj h
    exact lv_ineg hx hb hd (kk _ _ _ hP hS hH hl)
  case i2l =>
    obtain ⟨rfl, x, rest, rfl, h⟩ := h
    obtain ⟨rfl, rfl, rfl, rfl⟩ := zgo_inj h
    exact lv_i2l hx hb hd rfl (kk _ _ _ hP hS hH hl)
  case lcmp =>
    obtain ⟨rfl, x, y, rest, rfl, h⟩ := h
    obtain ⟨rfl, rfl, rfl, rfl⟩ := zgo_inj h
    exact W.lcmp hx hb hd (kk _ _ _ hP hS hH hl)
  case dup =>
    obtain ⟨rfl, v, rest, rfl, hv, h⟩ := h
    obtain ⟨rfl, rfl, rfl, rfl⟩ := zgo_inj h
    exact lv_dup hx hb hd ((ztr_cat G v).trans hv) (kk _ _ _ hP hS hH hl)
  case dup2 =>
    obtain ⟨rfl, v, u, rest, rfl, hv, hu, h⟩ := h
    obtain ⟨rfl, rfl, rfl, rfl⟩ := zgo_inj h
    exact lv_dup2_11 hx hb hd ((ztr_cat G v).trans hv) ((ztr_cat G u).trans hu) (kk _ _ _ hP hS hH hl)
  case pop =>
    obtain ⟨rfl, v, rest, rfl, hv, h⟩ := h
    obtain ⟨rfl, rfl, rfl, rfl⟩ := zgo_inj h
    exact lv_pop hx hb hd ((ztr_cat G v).trans hv) (kk _ _ _ hP hS hH hl)
  case ifCond cd off =>
    obtain ⟨rfl, x, rest, tgt, rfl, ht, ⟨hc, h⟩ | ⟨hc, h⟩⟩ := h
    · obtain ⟨rfl, rfl, rfl, rfl⟩ := zgo_inj h
      have k1 := kk _ _ _ hP hS hH hl
      cases cd
      · exact lv_if_eq hx hb hd ht (fun _ => k1) (fun h => absurd hc h)
      · exact lv_if_ne hx hb hd ht (fun _ => k1) (fun h => absurd h hc)
      · exact lv_if_lt hx hb hd ht (fun _ => k1) (fun h => absurd hc h)
      · exact lv_if_ge hx hb hd ht (fun _ => k1) (fun h => absurd hc h)
      · exact lv_if_gt hx hb hd ht (fun _ => k1) (fun h => absurd hc h)
      · exact lv_if_le hx hb hd ht (fun _ => k1) (fun h => absurd hc h)
    · obtain ⟨rfl, rfl, rfl, rfl⟩ := zgo_inj h
      have k1 := kk _ _ _ hP hS hH hl
      cases cd
      · exact lv_if_eq hx hb hd ht (fun h => absurd h hc) (fun _ => k1)
      · exact lv_if_ne hx hb hd ht (fun h => absurd h hc) (fun _ => k1)
      · exact lv_if_lt hx hb hd ht (fun h => absurd h hc) (fun _ => k1)
      · exact lv_if_ge hx hb hd ht (fun h => absurd h hc) (fun _ => k1)
      · exact lv_if_gt hx hb hd ht (fun h => absurd h hc) (fun _ => k1)
      · exact lv_if_le hx hb hd ht (fun h => absurd h hc) (fun _ => k1)
  case if_icmp cd off =>
    obtain ⟨rfl, x, y, rest, tgt, rfl, ht, ⟨hc, h⟩ | ⟨hc, h⟩⟩ := h
    · obtain ⟨rfl, rfl, rfl, rfl⟩ := zgo_inj h
      have k1 := kk _ _ _ hP hS hH hl
      cases cd
      · exact lv_icmp_eq hx hb hd ht (fun _ => k1) (fun h => absurd hc h)
      · exact lv_icmp_ne hx hb hd ht (fun _ => k1) (fun h => absurd h hc)
      · exact lv_icmp_lt hx hb hd ht (fun _ => k1) (fun h => absurd hc h)
      · exact lv_icmp_ge hx hb hd ht (fun _ => k1) (fun h => absurd hc h)
      · exact lv_icmp_gt hx hb hd ht (fun _ => k1) (fun h => absurd hc h)
      · exact lv_icmp_le hx hb hd ht (fun _ => k1) (fun h => absurd hc h)
    · obtain ⟨rfl, rfl, rfl, rfl⟩ := zgo_inj h
      have k1 := kk _ _ _ hP hS hH hl
      cases cd
      · exact lv_icmp_eq hx hb hd ht (fun h => absurd h hc) (fun _ => k1)
      · exact lv_icmp_ne hx hb hd ht (fun h => absurd h hc) (fun _ => k1)
      · exact lv_icmp_lt hx hb hd ht (fun h => absurd h hc) (fun _ => k1)
      · exact lv_icmp_ge hx hb hd ht (fun h => absurd h hc) (fun _ => k1)
      · exact lv_icmp_gt hx hb hd ht (fun h => absurd h hc) (fun _ => k1)
      · exact lv_icmp_le hx hb hd ht (fun h => absurd h hc) (fun _ => k1)
  case ifnull off =>
    obtain ⟨rfl, ⟨rest, tgt, rfl, ht, h⟩ | ⟨a, rest, rfl, h⟩⟩ := h
    · obtain ⟨rfl, rfl, rfl, rfl⟩ := zgo_inj h
      exact lv_ifnullN hx hb hd ht (kk _ _ _ hP hS hH hl)
    · obtain ⟨rfl, rfl, rfl, rfl⟩ := zgo_inj h
      exact lv_ifnull hx hb hd (kk _ _ _ hP hS hH hl)
  case ifnonnull off =>
    obtain ⟨rfl, ⟨a, rest, tgt, rfl, ht, h⟩ | ⟨rest, rfl, h⟩⟩ := h
    · obtain ⟨rfl, rfl, rfl, rfl⟩ := zgo_inj h
      exact lv_ifnonnull hx hb hd ht (kk _ _ _ hP hS hH hl)
    · obtain ⟨rfl, rfl, rfl, rfl⟩ := zgo_inj h
      exact lv_ifnonnullN hx hb hd (kk _ _ _ hP hS hH hl)
  case goto off =>
    obtain ⟨rfl, tgt, ht, h⟩ := h
    obtain ⟨rfl, rfl, rfl, rfl⟩ := zgo_inj h
    exact lv_goto hx hb hd ht (kk _ _ _ hP hS hH hl)
  case tableswitch d lo hi offs =>
    obtain ⟨x, rest, tgt, rfl, ⟨ho, ht⟩ | ⟨h1, h2, off, ho, ht⟩, h⟩ := h
    · obtain ⟨rfl, rfl, rfl, rfl⟩ := zgo_inj h
      exact lv_tableOut hx hb hd ho ht (kk _ _ _ hP hS hH hl)
    · obtain ⟨rfl, rfl, rfl, rfl⟩ := zgo_inj h
      exact lv_tableIn hx hb hd h1 h2 ho ht (kk _ _ _ hP hS hH hl)
  case getfield ix =>
    obtain ⟨rfl, o, rest, ci, k, fs, v, rfl, hf, ho, hv, h⟩ := h
    obtain ⟨rfl, rfl, rfl, rfl⟩ := zgo_inj h
    obtain ⟨q, hq, hkq, hlk⟩ := zfx_spec hf
    obtain ⟨e1, e2, e3, e4, e5⟩ := zcl_spec hq
    have hci := zcl_lt hq
    have ea : zad G o = zgB G + o := zad_own ho hlim
    have hw : (ztoW G w2)[o]? = some (zgB G + o, .inr (ci, fs.map (ztr G))) := by rw [ztoW_get ho, zconv_obj hci]
    have hv2 : (fs.map (ztr G))[k]? = some (ztr G v) := by rw [List.getElem?_map, hv]; rfl
    have k1 := kk _ _ _ hP hS hH hl
    show W p l e R s m args below meth c H locs (w2.length - n0) (zsz w2 - s0) Q (F0 m pc real (.ref (zad G o) :: rest.map (ztr G)))
    rw [ea]
    obtain ⟨qC, qT, qN⟩ := q
    rcases hlk with hlk | ⟨host, hlk⟩
    · exact va_get hx hb hts e4 hown hK hP o hw hq k hkq (hts _ hlk) (fun x hx2 => by rw [← hx2]; exact congrArg (fun z => s.fieldFound? z _ _) (e5 k hkq).symm) hv2 hd k1
    · exact va_getN hx hb hts e4 hown hK hP o hw hq k hkq (va_Nw.use rfl (hNW _ hlk)) (fun x hx2 => by rw [← hx2]; exact congrArg (fun z => s.fieldFound? z _ _) (e5 k hkq).symm) hv2 hd k1
  case putfield ix =>
    obtain ⟨rfl, v, o, rest, ci, k, fs, rfl, hf, ho, hk, hfit, hfin, h⟩ := h
    obtain ⟨rfl, rfl, rfl, rfl⟩ := zgo_inj h
    obtain ⟨q, hq, hkq, hlk⟩ := zfx_spec hf
    have ea : zad G o = zgB G + o := zad_own ho hlim
    rw [List.length_set, zsz_set ho (List.length_set ..)] at kk
    show W p l e R s m args below meth c H locs (w.length - n0) (zsz w - s0) Q (F0 m pc real (ztr G v :: .ref (zad G o) :: st2.map (ztr G)))
    rw [ea]
    exact zput hx hb hts hown hcn hname hNW hK hP hS hH hq hkq hlk ho hk hfit hfin hd (fun H1 locs1 hP1 hS1 hH1 => kk H1 locs1 real hP1 hS1 hH1 hl)
  case iaload =>
    obtain ⟨rfl, j, o, rest, rfl, ⟨sl, x, ho, hin, hv, h⟩ | ⟨rfl, hin, h⟩⟩ := h
    · obtain ⟨rfl, rfl, rfl, rfl⟩ := zgo_inj h
      have ea : zad G o = zgB G + o := zad_own ho hlim
      have hw : (ztoW G w2)[o]? = some (zgB G + o, .inl (zgI G, sl.length, .inl (zint sl))) := ztoW_get ho
      have k1 := kk _ _ _ hP hS hH hl
      show W p l e R s m args below meth c H locs (w2.length - n0) (zsz w2 - s0) Q (F0 m pc real (.int j :: .ref (zad G o) :: rest.map (ztr G)))
      rw [ea]
      refine va_iald hx hb hK hP o 0 hw rfl hin hd ?_
      rw [zint_get hv]
      exact k1
    · obtain ⟨rfl, rfl, rfl, rfl⟩ := zgo_inj h
      exact va_sld hx hb hX hbl hbA hS hin hd (kk _ _ _ hP hS hH hl)
  case iastore =>
    obtain ⟨rfl, x, j, o, rest, sl, rfl, ho, hin, h⟩ := h
    obtain ⟨rfl, rfl, rfl, rfl⟩ := zgo_inj h
    have ea : zad G o = zgB G + o := zad_own ho hlim
    rw [List.length_set, zsz_set ho (List.length_set ..)] at kk
    show W p l e R s m args below meth c H locs (w.length - n0) (zsz w - s0) Q (F0 m pc real (.int x :: .int j :: .ref (zad G o) :: st2.map (ztr G)))
    rw [ea]
    exact ziast hx hb hK hP hS hH ho hin hd (fun H1 locs1 hP1 hS1 hH1 => kk H1 locs1 real hP1 hS1 hH1 hl)
  case baload =>
    obtain ⟨rfl, j, o, rest, sl, x, rfl, ho, hin, hv, h⟩ := h
    obtain ⟨rfl, rfl, rfl, rfl⟩ := zgo_inj h
    have ea : zad G o = zgB G + o := zad_own ho hlim
    have hw : (ztoW G w2)[o]? = some (zgB G + o, .inl (zgZ G, sl.length, .inl (zint sl))) := ztoW_get ho
    have k1 := kk _ _ _ hP hS hH hl
    show W p l e R s m args below meth c H locs (w2.length - n0) (zsz w2 - s0) Q (F0 m pc real (.int j :: .ref (zad G o) :: rest.map (ztr G)))
    rw [ea]
    refine va_zald hx hb hK hP o 1 hw rfl hin hd ?_
    rw [zint_get hv]
    exact k1
  case bastore =>
    obtain ⟨rfl, x, j, o, rest, sl, rfl, hx01, ho, hin, h⟩ := h
    obtain ⟨rfl, rfl, rfl, rfl⟩ := zgo_inj h
    have ea : zad G o = zgB G + o := zad_own ho hlim
    rw [List.length_set, zsz_set ho (List.length_set ..)] at kk
    show W p l e R s m args below meth c H locs (w.length - n0) (zsz w - s0) Q (F0 m pc real (.int x :: .int j :: .ref (zad G o) :: st2.map (ztr G)))
    rw [ea]
    exact zzast hx hb hK hP hS hH ho hin hx01 hd (fun H1 locs1 hP1 hS1 hH1 => kk H1 locs1 real hP1 hS1 hH1 hl)
  case aaload =>
    obtain ⟨rfl, j, o, rest, t, sl, v, rfl, ht, ho, hin, hv, hr, h⟩ := h
    obtain ⟨rfl, rfl, rfl, rfl⟩ := zgo_inj h
    have ea : zad G o = zgB G + o := zad_own ho hlim
    have k1 := kk _ _ _ hP hS hH hl
    show W p l e R s m args below meth c H locs (w2.length - n0) (zsz w2 - s0) Q (F0 m pc real (.int j :: .ref (zad G o) :: rest.map (ztr G)))
    rw [ea]
    rcases ht with rfl | rfl
    · have hw : (ztoW G w2)[o]? = some (zgB G + o, .inl (zgS G, sl.length, .inr (.inr (.inr (.inr (zref G sl)))))) := ztoW_get ho
      refine va_aldq hx hb hK hP o 2 hw rfl hin hd ?_
      rw [zref_get hv hr]
      exact k1
    · have hw : (ztoW G w2)[o]? = some (zgB G + o, .inl (zgN G, sl.length, .inr (.inr (.inr (.inr (zref G sl)))))) := ztoW_get ho
      refine va_aldq hx hb hK hP o 3 hw rfl hin hd ?_
      rw [zref_get hv hr]
      exact k1
  case aastore =>
    obtain ⟨rfl, q, j, o, rest, t, sl, ci, fs, rfl, hci, rfl, hq, ho, hin, h⟩ := h
    obtain ⟨rfl, rfl, rfl, rfl⟩ := zgo_inj h
    have ea : zad G o = zgB G + o := zad_own ho hlim
    have eq : zad G q = zgB G + q := zad_own hq hlim
    rw [List.length_set, zsz_set ho (List.length_set ..)] at kk
    show W p l e R s m args below meth c H locs (w.length - n0) (zsz w - s0) Q (F0 m pc real (.ref (zad G q) :: .int j :: .ref (zad G o) :: st2.map (ztr G)))
    rw [ea, eq]
    rcases hci with rfl | rfl
    · exact zqast (tk := 2) (ci := 4) (cA := zgS G) hx hb hK hP hS hH rfl rfl (by decide) rfl eq hq ho rfl rfl hin hd (fun H1 locs1 hP1 hS1 hH1 => kk H1 locs1 real hP1 hS1 hH1 hl)
    · exact zqast (tk := 3) (ci := 6) (cA := zgN G) hx hb hK hP hS hH rfl rfl (by decide) rfl eq hq ho rfl rfl hin hd (fun H1 locs1 hP1 hS1 hH1 => kk H1 locs1 real hP1 hS1 hH1 hl)
  case arraylength =>
    obtain ⟨rfl, o, rest, rfl, ⟨t, sl, ho, ht1, ht2, h⟩ | ⟨rfl, h⟩⟩ := h
    · obtain ⟨rfl, rfl, rfl, rfl⟩ := zgo_inj h
      have ea : zad G o = zgB G + o := zad_own ho hlim
      have k1 := kk _ _ _ hP hS hH hl
      show W p l e R s m args below meth c H locs (w2.length - n0) (zsz w2 - s0) Q (F0 m pc real (.ref (zad G o) :: rest.map (ztr G)))
      rw [ea]
      rcases (show t = 20 ∨ t = 21 ∨ t = 22 ∨ t = 23 by omega) with rfl | rfl | rfl | rfl
      · exact va_alen hx hb hK hP o 0 (ztoW_get ho) rfl rfl hd k1
      · exact va_alen hx hb hK hP o 1 (ztoW_get ho) rfl rfl hd k1
      · exact va_alen hx hb hK hP o 2 (ztoW_get ho) rfl rfl hd k1
      · exact va_alen hx hb hK hP o 3 (ztoW_get ho) rfl rfl hd k1
    · obtain ⟨rfl, rfl, rfl, rfl⟩ := zgo_inj h
      exact va_slen hx hb hX hbl hbA hS hd (kk _ _ _ hP hS hH hl)
  case new ix =>
    obtain ⟨rfl, ci, hc, hw, h⟩ := h
    obtain ⟨rfl, rfl, rfl, rfl⟩ := zgo_inj h
    obtain ⟨hci, hlk⟩ := zkx_spec hc
    obtain ⟨q, hq⟩ := zcl_get hci
    obtain ⟨e1, e2, e3, e4, e5⟩ := zcl_spec hq
    have en : (zblank ci).length = q.2.2 := by
      unfold zblank
      rw [List.length_map, List.length_range]
      exact (zdes_eq hq 0).2.2
    rw [List.length_append] at kk hcel
    rw [zsz_app] at kk hslo
    dsimp only [List.length_cons, List.length_nil] at kk hcel hslo
    rw [en] at kk hslo
    refine znew hx hb hts hq e4 hown (by rw [e1]; exact hts _ hlk) (hts _ e2) (hts _ e3) hK hP hS hH (by omega) (by omega) hd (fun H1 hP1 hS1 hH1 => ?_)
    have k1 := kk H1 locs real hP1 hS1 (by rw [hH1, List.length_append]; rfl) hl
    rw [show w.length - n0 + 1 = w.length + 1 - n0 by omega, show zsz w - s0 + q.2.2 = zsz w + q.2.2 - s0 by omega]
    have k2 : W p l e R s m args below meth c H1 locs (w.length + 1 - n0) (zsz w + q.2.2 - s0) Q (F0 m (pc + 3) real (.ref (zad G w.length) :: st.map (ztr G))) := k1
    rw [zad_new hw] at k2
    exact k2
  case newarray a =>
    obtain ⟨rfl, n, rest, t, rfl, hn0, hn1, ht, hw, h⟩ := h
    obtain ⟨rfl, rfl, rfl, rfl⟩ := zgo_inj h
    rw [List.length_append] at kk hcel
    rw [zsz_app] at kk hslo
    dsimp only [List.length_cons, List.length_nil] at kk hcel hslo
    rw [List.length_replicate] at kk hslo
    have key : ∀ H1 : Heap, va_P (zgD G) zcl (ztoW G (w ++ [(t, List.replicate n.toNatClampNeg (.int 0))])) H1 → va_S (zA G) s.heap H1 locs → H1.size = zgB G + (w ++ [(t, List.replicate n.toNatClampNeg (Value.int 0))]).length → W p l e R s m args below meth c H1 locs (w.length - n0 + 1) (zsz w - s0 + n.toNatClampNeg) Q (F0 m (pc + 2) real (.ref (zgB G + w.length) :: rest.map (ztr G))) := by
      intro H1 hP1 hS1 hH1
      have k1 := kk H1 locs real hP1 hS1 (by rw [hH1, List.length_append]; rfl) hl
      rw [show w.length - n0 + 1 = w.length + 1 - n0 by omega, show zsz w - s0 + n.toNatClampNeg = zsz w + n.toNatClampNeg - s0 by omega]
      have k2 : W p l e R s m args below meth c H1 locs (w.length + 1 - n0) (zsz w + n.toNatClampNeg - s0) Q (F0 m (pc + 2) real (.ref (zad G w.length) :: rest.map (ztr G))) := k1
      rw [zad_new hw] at k2
      exact k2
    rcases ht with ⟨rfl, rfl⟩ | ⟨rfl, rfl⟩
    · exact znewa (ty := .int) (cA0 := zgI G) hx hb (hts _ zarr_i) rfl (hK.2 0 _ rfl).2 rfl (by rw [zconv_20, List.length_replicate]) hP hS hH hn0 rfl (by show _ * 4 ≤ _; omega) (by omega) (by omega) hd key
    · exact znewa (ty := .boolean) (cA0 := zgZ G) hx hb (hts _ zarr_z) rfl (hK.2 1 _ rfl).2 rfl (by rw [zconv_21, List.length_replicate]) hP hS hH hn0 rfl (by show _ * 1 ≤ _; omega) (by omega) (by omega) hd key
  case anewarray ix =>
    obtain ⟨rfl, n, rest, ci, rfl, hn0, hn1, hc, hci, hw, h⟩ := h
    obtain ⟨rfl, rfl, rfl, rfl⟩ := zgo_inj h
    obtain ⟨-, hlk⟩ := zkx_spec hc
    rw [List.length_append] at kk hcel
    rw [zsz_app] at kk hslo
    dsimp only [List.length_cons, List.length_nil] at kk hcel hslo
    rw [List.length_replicate] at kk hslo
    have key : ∀ H1 : Heap, va_P (zgD G) zcl (ztoW G (w ++ [(zacl ci, List.replicate n.toNatClampNeg .null)])) H1 → va_S (zA G) s.heap H1 locs → H1.size = zgB G + (w ++ [(zacl ci, List.replicate n.toNatClampNeg Value.null)]).length → W p l e R s m args below meth c H1 locs (w.length - n0 + 1) (zsz w - s0 + n.toNatClampNeg) Q (F0 m (pc + 3) real (.ref (zgB G + w.length) :: rest.map (ztr G))) := by
      intro H1 hP1 hS1 hH1
      have k1 := kk H1 locs real hP1 hS1 (by rw [hH1, List.length_append]; rfl) hl
      rw [show w.length - n0 + 1 = w.length + 1 - n0 by omega, show zsz w - s0 + n.toNatClampNeg = zsz w + n.toNatClampNeg - s0 by omega]
      have k2 : W p l e R s m args below meth c H1 locs (w.length + 1 - n0) (zsz w + n.toNatClampNeg - s0) Q (F0 m (pc + 3) real (.ref (zad G w.length) :: rest.map (ztr G))) := k1
      rw [zad_new hw] at k2
      exact k2
    rcases hci with rfl | rfl
    · obtain ⟨kA, comp, -, -, -, hf⟩ := (hK.2 2 _ rfl).2
      exact znewq (C := "AdjectiveCoupons$State") (cA0 := zgS G) (t := 22) hx hb hown (hts _ hlk) hAO1 hf (by rw [zconv_22, List.length_replicate]) hP hS hH hn0 rfl (by omega) (by omega) (by omega) hd key
    · obtain ⟨kA, comp, -, -, -, hf⟩ := (hK.2 3 _ rfl).2
      exact znewq (C := "AdjectiveCoupons$Line") (cA0 := zgN G) (t := 23) hx hb hown (hts _ hlk) hAO2 hf (by rw [zconv_23, List.length_replicate]) hP hS hH hn0 rfl (by omega) (by omega) (by omega) hd key
  case invokevirtual ix => obtain ⟨-, j, As, o, rest, N, -, -, -, -, -, -, h⟩ := h; cases h
  case invokespecial ix =>
    rcases h with ⟨rfl, ⟨o, rest, hmx, rfl, hcat, h⟩ | ⟨j, As, o, rest, N, -, -, -, -, -, -, -, h⟩⟩
    · obtain ⟨rfl, rfl, rfl, rfl⟩ := zgo_inj h
      obtain ⟨y, hy, -, -, a2, -, -, a5⟩ := zmx_spec hmx
      cases hy
      refine W.objInit hx hb hown (hts _ (a5 (Nat.le_refl _))) (hts _ (a2 (by decide))) (hts _ zobj_code) rfl (by show real.size = _; rw [hml]; exact hl.2.1) rfl hd hfr ?_ (kk _ _ _ hP hS hH hl)
      have := zcat_tr G st2
      show 2 * 0 + ((st2.map (ztr G)).map fun v => v.category).sum + 12 ≤ R.locals
      omega
    · cases h
  case invokestatic ix =>
    rcases h with ⟨rfl, ⟨x, y, rest, hmx, rfl, hcat, h⟩ | ⟨x, y, rest, hmx, rfl, hcat, h⟩ | ⟨j, As, rest, N, -, -, -, -, -, h⟩⟩
    · obtain ⟨rfl, rfl, rfl, rfl⟩ := zgo_inj h
      obtain ⟨y, hy, -, a1, -, -, -, a5⟩ := zmx_spec hmx
      cases hy
      refine va_mmax hx hb (by rw [hml]; exact hl.2.1.symm) hown (hts _ (a5 (by decide))) (hts _ (a1 rfl)) (hts _ zmath_init) (hts _ zmax_code) hfr ?_ (by omega) (by omega) hd (kk _ _ _ hP hS hH hl)
      have := zcat_tr G rest
      omega
    · obtain ⟨rfl, rfl, rfl, rfl⟩ := zgo_inj h
      obtain ⟨y, hy, -, a1, -, -, -, a5⟩ := zmx_spec hmx
      cases hy
      refine va_mmin hx hb (by rw [hml]; exact hl.2.1.symm) hown (hts _ (a5 (by decide))) (hts _ (a1 rfl)) (hts _ zmath_init) (hts _ zmin_code) hfr ?_ (by omega) (by omega) hd (kk _ _ _ hP hS hH hl)
      have := zcat_tr G rest
      omega
    · cases h
  case ireturn => obtain ⟨-, x, -, -, h⟩ := h; cases h
  case areturn => obtain ⟨-, v, n, -, -, -, h⟩ := h; cases h
  case return_ => obtain ⟨-, -, -, h⟩ := h; cases h
  all_goals exact False.elim h
end ZSIM
end
section
-- ===== calls =====
def zws (N : zPM) : List Cond := zmk N :: zTB
def zrm (d mc ms : Nat) : Room := { frames := d, cells := mc, slots := ms, locals := 35 * d }
def zPc (G : zG) (As : List Value) (w : zW) : Array Value → State → Prop := va_Pc (As.map (ztr G)) (fun U => zWd G w U U.heap)
def zQc (G : zG) (r : Option Value) (w : zW) : Array Value → State → Outcome → State → Prop := fun _ st oc t => (oc = .returned (r.map (ztr G)) ∧ va_P (zgD G) zcl (ztoW G w) t.heap ∧ t.heap.size = zgB G + w.length) ∧ va_F (zA G) st t
def zMet (G : zG) (l : Launch) (d : Nat) : Prop := ∀ (j : Nat) (As : List Value) (w : zW) (r : Option Value) (w2 : zW), zEv (zgL G) (zgx G) d j As w r w2 → (w.length ≤ w2.length ∧ zsz w ≤ zsz w2 ∧ (w.length ≤ zlim → w2.length ≤ zlim)) ∧
  ∀ N, zpms[j]? = some N → Met l N.1 (zws N) (zrm d (w2.length - w.length) (zsz w2 - zsz w)) (zPc G As w) (zQc G r w2) (w2.length - w.length) (zsz w2 - zsz w) (zA G)
theorem zNW_same {U V : State} (hv : U.vm = V.vm) {w : Cond} (hw : w ∈ zNW) (h : va_Nw w U) : va_Nw w V := by
  have h1 := (List.mem_filter.mp hw).2
  cases w <;> first | exact va_Nw.same rfl hv h | (simp [znest] at h1)
theorem zSt_same {G : zG} {U V : State} {H : Heap} (hv : U.vm = V.vm) (h : zSt G U H) : zSt G V H := by
  obtain ⟨hX, hb, ⟨hs1, hs2, hs3, hs4⟩, hK, hN, hA1, hA2⟩ := h
  have hA : U.vm.Alike V.vm := by rw [hv]; exact Vm.Alike.refl _
  exact ⟨hX.moved hA, hb, ⟨hs1.moved hA, hs2.same hv.symm, hs3.moved hA, hs4.moved hA⟩, hK.moved hA, fun w hw => zNW_same hv hw (hN w hw), hA1.moved hA, hA2.moved hA⟩
theorem zPc_blind {G : zG} {As : List Value} {w : zW} : FrameBlind (zPc G As w) := by
  intro a U g mk h
  exact ⟨h.1, zSt_same (U := U) (V := U.calling g mk a) rfl h.2.1, h.2.2⟩
theorem zws_good {N : zPM} (h : zmk N ∈ zTB) : GoodIn zTB (zws N) := by
  intro w hw
  rcases List.mem_cons.mp hw with rfl | hw
  · exact ⟨h, good_of_word rfl⟩
  · exact ⟨hw, good_of_word (List.mem_filter.mp hw).2⟩
theorem zEv_meth {L : Nat} {xs : Nat → Int32} {d j : Nat} {As : List Value} {w : zW} {r : Option Value} {w2 : zW} (h : zEv L xs d j As w r w2) {N : zPM} (hN : zpms[j]? = some N) : N.2.2.2.2 ≠ 99 ∨ j = zjLen ∨ j = zjCh := by
  cases d with
  | zero => exact False.elim h
  | succ d =>
    rcases h with ⟨h, -⟩ | ⟨h, -⟩ | ⟨M, n, hM, ho, -⟩
    · exact Or.inr (Or.inl h)
    · exact Or.inr (Or.inr h)
    · cases hN.symm.trans hM
      exact Or.inl ho
theorem zmlY_eq {j : Nat} {N : zPM} (h : zpms[j]? = some N) : zmlY j = some N.1 ∧ j < 1000 := by
  have hl : j < 231 := (List.getElem?_eq_some_iff.mp h).1
  refine ⟨?_, by omega⟩
  unfold zmlY
  rw [if_neg (by omega), if_neg (by omega), if_neg (by omega), h]
  rfl
theorem zno {L : Nat} {xs : Nat → Int32} {M : zPM} {i : Instr} {len pc : Nat} {ls : zL} {st : List Value} {w : zW} {x : Nat × List Value × List Value} (h : zStep L xs M i len pc ls st w (.inr (.inr x))) : (∃ ix, i = .invokevirtual ix) ∨ (∃ ix, i = .invokespecial ix) ∨ (∃ ix, i = .invokestatic ix) := by
  cases i
  case aconst_null => exact (zgo_no h.2).elim
  case aload_n k => obtain ⟨-, v, -, -, h⟩ := h; exact (zgo_no h).elim
  case aload k => obtain ⟨-, v, -, -, h⟩ := h; exact (zgo_no h).elim
  case iload_n k => obtain ⟨-, v, -, h⟩ := h; exact (zgo_no h).elim
  case iload k => obtain ⟨-, v, -, h⟩ := h; exact (zgo_no h).elim
  case lload_n k => obtain ⟨-, v, -, h⟩ := h; exact (zgo_no h).elim
  case lload k => obtain ⟨-, v, -, h⟩ := h; exact (zgo_no h).elim
  case iconst n => exact (zgo_no h.2).elim
  case bipush n => exact (zgo_no h.2).elim
  case sipush n => exact (zgo_no h.2).elim
  case lconst n => exact (zgo_no h.2).elim
  case ldc ix => rcases h with ⟨-, ⟨v, -, h⟩ | ⟨-, -, h⟩⟩ <;> exact (zgo_no h).elim
  case ldc_w ix => obtain ⟨-, v, -, h⟩ := h; exact (zgo_no h).elim
  case ldc2_w ix => obtain ⟨-, v, -, h⟩ := h; exact (zgo_no h).elim
  case istore_n k => obtain ⟨-, x, rest, -, -, -, h⟩ := h; exact (zgo_no h).elim
  case istore k => obtain ⟨-, x, rest, -, -, -, h⟩ := h; exact (zgo_no h).elim
  case astore_n k => obtain ⟨-, x, rest, -, -, -, -, h⟩ := h; exact (zgo_no h).elim
  case astore k => obtain ⟨-, x, rest, -, -, -, -, h⟩ := h; exact (zgo_no h).elim
  case iinc k n => obtain ⟨-, x, -, -, h⟩ := h; exact (zgo_no h).elim
  case iadd => obtain ⟨-, x, y, rest, -, h⟩ := h; exact (zgo_no h).elim
  case isub => obtain ⟨-, x, y, rest, -, h⟩ := h; exact (zgo_no h).elim
  case imul => obtain ⟨-, x, y, rest, -, h⟩ := h; exact (zgo_no h).elim
  case idiv => obtain ⟨-, x, y, rest, -, -, h⟩ := h; exact (zgo_no h).elim
  case irem => obtain ⟨-, x, y, rest, -, -, h⟩ := h; exact (zgo_no h).elim
  case iand => obtain ⟨-, x, y, rest, -, h⟩ := h; exact (zgo_no h).elim
  case ior => obtain ⟨-, x, y, rest, -, h⟩ := h; exact (zgo_no h).elim
  case ixor => obtain ⟨-, x, y, rest, -, h⟩ := h; exact (zgo_no h).elim
  case ishl => obtain ⟨-, x, y, rest, -, h⟩ := h; exact (zgo_no h).elim
  case ishr => obtain ⟨-, x, y, rest, -, h⟩ := h; exact (zgo_no h).elim
  case iushr => obtain ⟨-, x, y, rest, -, h⟩ := h; exact (zgo_no h).elim
  case ineg => obtain ⟨-, x, rest, -, h⟩ := h; exact (zgo_no h).elim
  case i2l => obtain ⟨-, x, rest, -, h⟩ := h; exact (zgo_no h).elim
  case lcmp => obtain ⟨-, x, y, rest, -, h⟩ := h; exact (zgo_no h).elim
  case dup => obtain ⟨-, v, rest, -, -, h⟩ := h; exact (zgo_no h).elim
  case dup2 => obtain ⟨-, v, u, rest, -, -, -, h⟩ := h; exact (zgo_no h).elim
  case pop => obtain ⟨-, v, rest, -, -, h⟩ := h; exact (zgo_no h).elim
  case ifCond cd off => obtain ⟨-, x, rest, tgt, -, -, ⟨-, h⟩ | ⟨-, h⟩⟩ := h <;> exact (zgo_no h).elim
  case if_icmp cd off => obtain ⟨-, x, y, rest, tgt, -, -, ⟨-, h⟩ | ⟨-, h⟩⟩ := h <;> exact (zgo_no h).elim
  case ifnull off => obtain ⟨-, ⟨rest, tgt, -, -, h⟩ | ⟨a, rest, -, h⟩⟩ := h <;> exact (zgo_no h).elim
  case ifnonnull off => obtain ⟨-, ⟨a, rest, tgt, -, -, h⟩ | ⟨rest, -, h⟩⟩ := h <;> exact (zgo_no h).elim
  case goto off => obtain ⟨-, tgt, -, h⟩ := h; exact (zgo_no h).elim
  case tableswitch d lo hi offs => obtain ⟨x, rest, tgt, -, -, h⟩ := h; exact (zgo_no h).elim
  case getfield ix => obtain ⟨-, o, rest, ci, k, fs, v, -, -, -, -, h⟩ := h; exact (zgo_no h).elim
  case putfield ix => obtain ⟨-, v, o, rest, ci, k, fs, -, -, ho, -, -, -, h⟩ := h; exact (zgo_no h).elim
  case iaload => obtain ⟨-, j, o, rest, -, ⟨sl, x, -, -, -, h⟩ | ⟨-, -, h⟩⟩ := h <;> exact (zgo_no h).elim
  case iastore => obtain ⟨-, x, j, o, rest, sl, -, ho, -, h⟩ := h; exact (zgo_no h).elim
  case baload => obtain ⟨-, j, o, rest, sl, x, -, -, -, -, h⟩ := h; exact (zgo_no h).elim
  case bastore => obtain ⟨-, x, j, o, rest, sl, -, -, ho, -, h⟩ := h; exact (zgo_no h).elim
  case aaload => obtain ⟨-, j, o, rest, t, sl, v, -, -, -, -, -, -, h⟩ := h; exact (zgo_no h).elim
  case aastore => obtain ⟨-, q, j, o, rest, t, sl, ci, fs, -, -, -, -, ho, -, h⟩ := h; exact (zgo_no h).elim
  case arraylength => obtain ⟨-, o, rest, -, ⟨t, sl, -, -, -, h⟩ | ⟨-, h⟩⟩ := h <;> exact (zgo_no h).elim
  case new ix => obtain ⟨-, ci, -, hw, h⟩ := h; exact (zgo_no h).elim
  case newarray a => obtain ⟨-, n, rest, t, -, -, -, -, hw, h⟩ := h; exact (zgo_no h).elim
  case anewarray ix => obtain ⟨-, n, rest, ci, -, -, -, -, -, hw, h⟩ := h; exact (zgo_no h).elim
  case invokevirtual ix => exact Or.inl ⟨_, rfl⟩
  case invokespecial ix => exact Or.inr (Or.inl ⟨_, rfl⟩)
  case invokestatic ix => exact Or.inr (Or.inr ⟨_, rfl⟩)
  case ireturn => obtain ⟨-, x, -, -, h⟩ := h; cases h
  case areturn => obtain ⟨-, v, n, -, -, -, h⟩ := h; cases h
  case return_ => obtain ⟨-, -, -, h⟩ := h; cases h
  all_goals exact False.elim h
section ZCALL
variable {p : Program} {l : Launch} {e : Env} {R : Room} {s : State} {m : MethodId} {args : Array Value} {below : List Frame} {meth : Method} {c : Code} {H : Heap} {locs : List Loc} {cells slots : Nat} {Q : State → Prop}
variable {pc : Nat} {real : Array Slot} {rest st0 : List Value} {mc ms : Nat} {free : Addr → Prop} {A0 : Nat → Prop} {H0 : Heap}
theorem zcall {Qa : State → Outcome → State → Prop} (hr : va_Run p l e R s m args below meth c H locs cells slots mc ms (F0 m pc real st0) rest Qa free) (hS : va_S A0 H0 H locs) (hf : ∀ q, free q → A0 q) (hQ : ∀ st oc t, Qa st oc t → va_F A0 st t)
    (kk : ∀ (v : Option Value) (st₀ t : State) (H1 : Heap) (locs1 : List Loc), t.heap = H1 → st₀.heap = H → Qa st₀ (.returned v) t → va_S A0 H0 H1 locs1 → W p l e R s m args below meth c H1 locs1 (cells + mc) (slots + ms) Q (F0 m (pc + 3) real (v.toList ++ rest))) : W p l e R s m args below meth c H locs cells slots Q (F0 m pc real st0) := by
  intro T hT X
  obtain ⟨v, st₀, t, T', L, h0, X', hL, e1, e2, hq, st⟩ := hr T hT X
  obtain ⟨hz, hk⟩ := hQ _ _ _ hq
  rw [h0] at hz hk
  obtain ⟨t2, a1, b1⟩ := kk v st₀ t T'.heap (locs ++ L) e1.symm h0 hq
    ⟨Nat.le_trans hS.1 (by rw [e1]; exact hz), fun q h1 h2 => by rw [e1, hk q (Nat.lt_of_lt_of_le h1 hS.1) h2]; exact hS.2.1 q h1 h2, fun q hq => by
      rcases List.mem_append.mp hq with h | h
      · exact hS.2.2 q h
      · exact hf _ (hL q h)⟩ T' rfl X'
  exact ⟨t2, st t2 a1, b1⟩
end ZCALL
section ZINV
variable {p : Program} {l : Launch} {e : Env} {R : Room} {s : State} {m : MethodId} {args : Array Value} {below : List Frame} {meth : Method} {c : Code} {Q : State → Prop}
variable {G : zG} {M : zPM}
set_option maxHeartbeats 1000000 in
theorem zinv_sound {d n0 s0 : Nat} (IH : zMet G l d) (C : zC G M p s m args meth c) (hfr : d + 1 ≤ R.frames) (hlo : 35 * d + 35 ≤ R.locals)
    {i : Instr} {len pc : Nat} {ls : zL} {st : List Value} {w : zW} {j : Nat} {As rest : List Value} (hd : decode M.2.1 pc = .ok (i, len)) (h : zStep (zgL G) (zgx G) M i len pc ls st w (.inr (.inr (j, As, rest))))
    {v : Option Value} {w2 : zW} (hev : zEv (zgL G) (zgx G) d j As w v w2)
    (hn : n0 ≤ w.length) (hz : s0 ≤ zsz w) (hcel : w2.length - n0 ≤ R.cells) (hslo : zsz w2 - s0 ≤ R.slots) (hlim : w.length ≤ zlim)
    {H : Heap} {locs : List Loc} {real : Array Slot} (hP : va_P (zgD G) zcl (ztoW G w) H) (hS : va_S (zA G) s.heap H locs) (hH : H.size = zgB G + w.length) (hl : zls G M.2.2.1 ls real)
    (kk : ∀ (H2 : Heap) (locs2 : List Loc), va_P (zgD G) zcl (ztoW G w2) H2 → va_S (zA G) s.heap H2 locs2 → H2.size = zgB G + w2.length → W p l e R s m args below meth c H2 locs2 (w2.length - n0) (zsz w2 - s0) Q (F0 m (pc + len) real ((v.toList ++ rest).map (ztr G)))) :
    W p l e R s m args below meth c H locs (w.length - n0) (zsz w - s0) Q (F0 m pc real (st.map (ztr G))) := by
  obtain ⟨⟨m1, m2, m3⟩, hMet⟩ := IH j As w v w2 hev
  obtain ⟨hx, hb, hml, hts, hown, hname, hcn, hSt, hB⟩ := C
  have hmove : ∀ U : State, U.heap = H → s.WarmedH U.vm → zWd G w U U.heap := fun U hU hW => ⟨zSt_move hSt hS hU hW, by rw [hU]; exact hP, by rw [hU]; exact hH, hlim⟩
  have hNW := hSt.2.2.2.2.1
  have hK := hSt.2.2.2.1
  have hstr := hSt.2.2.1
  have hsz : real.size = M.2.2.1 := hl.2.1
  have fin : ∀ {N : zPM}, va_Run p l e R s m args below meth c H locs (w.length - n0) (zsz w - s0) (w2.length - w.length) (zsz w2 - zsz w) (F0 m pc real (st.map (ztr G))) (rest.map (ztr G)) (zQc G v w2 (As.map (ztr G)).toArray) (zA G) → len = 3 → W p l e R s m args below meth c H locs (w.length - n0) (zsz w - s0) Q (F0 m pc real (st.map (ztr G))) := by
    intro N hr h3
    subst h3
    refine zcall hr hS (fun q h => h) (fun st oc t h => h.2) (fun v' st₀ t H1 locs1 ht h0 hq hS1 => ?_)
    obtain ⟨⟨hv, hP1, hz1⟩, -⟩ := hq
    cases hv
    rw [ht] at hP1 hz1
    have k1 := kk H1 locs1 hP1 hS1 hz1
    rw [show w.length - n0 + (w2.length - w.length) = w2.length - n0 by omega, show zsz w - s0 + (zsz w2 - zsz w) = zsz w2 - s0 by omega]
    have e1 : (v.map (ztr G)).toList ++ rest.map (ztr G) = (v.toList ++ rest).map (ztr G) := by cases v <;> simp
    rw [e1]
    exact k1
  have room : (zrm d (w2.length - w.length) (zsz w2 - zsz w)).frames + 1 ≤ R.frames := hfr
  have hc : w.length - n0 + (w2.length - w.length) ≤ R.cells ∧ zsz w - s0 + (zsz w2 - zsz w) ≤ R.slots := by omega
  have hrestcat : zcat rest ≤ 8 → 2 * (F0 m pc real (st.map (ztr G))).monitorRoom + ((rest.map (ztr G)).map fun v => v.category).sum ≤ 8 := by
    intro h
    rw [zcat_tr]
    show 2 * 0 + zcat rest ≤ 8
    omega
  cases i
  case invokevirtual ix =>
    obtain ⟨h3, j', As', o, rest', N, hmx, hN, hna, hst, hcat, hrec, h⟩ := h
    simp only [Sum.inr.injEq, Prod.mk.injEq] at h
    obtain ⟨rfl, rfl, rfl⟩ := h
    subst hst
    subst h3
    obtain ⟨n, hn2, g1, g2, g3, g4, g5, g6, -⟩ := zmeth hN (zEv_meth hev hN)
    have hnn : n = As'.length := Option.some.inj (hn2.symm.trans hna)
    subst hnn
    obtain ⟨y, hy, hlk, -, a2, a3, a4, -⟩ := zmx_spec hmx
    obtain ⟨ey, hj⟩ := zmlY_eq hN
    cases hy.symm.trans ey
    have hlocs : 8 + (N.2.2.1 + 11) + (zrm d (w2.length - w.length) (zsz w2 - zsz w)).locals ≤ R.locals := by show 8 + (N.2.2.1 + 11) + 35 * d ≤ R.locals; omega
    have hrecv : ∃ cellB : Cell, H[zad G o]? = some cellB ∧ cellB.vm.isStatics = false ∧ s.vm.findClass N.1.cls = some cellB.cls := by
      rcases hrec with ⟨ci, fs, ho, hci, hcc⟩ | ⟨rfl, hcc⟩
      · obtain ⟨q, hq⟩ := zcl_get hci
        obtain ⟨e1, -⟩ := zcl_spec hq
        rw [zad_own ho hlim, ← hcc, ← e1]
        exact va_recv hK hP hq (ztoW_get ho |>.trans (by rw [zconv_obj hci]))
      · rw [hcc]
        rw [show zad G zSTR = zgs G from rfl]
        exact vk_recv (i := 0) hstr.1 (by decide) hS
    have hp : PreV s H N.1.cls (zad G o) (zPc G (.ref o :: As') w) (As'.map (ztr G)) := ⟨zPc_blind, hrecv, fun U hU hW => ⟨rfl, hmove U hU hW⟩⟩
    have hstk : (F0 m pc real ((As'.reverse ++ Value.ref o :: rest).map (ztr G))).stack = (As'.map (ztr G)).reverse ++ .ref (zad G o) :: rest.map (ztr G) := by
      show (As'.reverse ++ Value.ref o :: rest).map (ztr G) = _
      rw [List.map_append, List.map_reverse]
      rfl
    have hd2 : N.1.cls ≠ "java/lang/invoke/MethodHandle" ∧ N.1.cls ≠ "java/lang/invoke/VarHandle" ∧ (parseMethodDescriptor N.1.desc).map (fun d => d.parameters.length) = some As'.length := ⟨g2, g3, g5⟩
    refine fin (N := N) ?_ rfl
    rcases hlk with hlk | ⟨-, host, hlk⟩
    · exact va_runV ⟨hx, hb, hml, hown, hts⟩ (hMet N hN) ⟨callB_of (bytes := N.2.1) (maxL := N.2.2.1) (ret := N.2.2.2.1) (ws' := zTB) As'.length hts (zws_good (zpm_in hN)) rfl rfl rfl (hts _ (a4 hj)) (hts _ hlk) hd2 ⟨room, hlocs⟩, hts _ (a2 (by decide)), hts _ (a3 rfl)⟩ hp rfl (by rw [List.length_map]) hsz hstk (hrestcat hcat) hd hc
    · exact va_runVN ⟨hx, hb, hml, hown, hts⟩ (hMet N hN) ⟨va_cnB (bytes := N.2.1) (maxL := N.2.2.1) (ret := N.2.2.2.1) (ws' := zTB) As'.length hts (zws_good (zpm_in hN)) rfl rfl rfl (hNW _ hlk) (hts _ (a4 hj)) hd2 ⟨room, hlocs⟩, hts _ (a2 (by decide)), hts _ (a3 rfl)⟩ hp rfl (by rw [List.length_map]) hsz hstk (hrestcat hcat) hd hc
  case invokespecial ix =>
    rcases h with ⟨h3, ⟨o, rest', -, -, -, h⟩ | ⟨j', As', o, rest', N, hmx, hN, hna, hy1, hret, hst, hcat, h⟩⟩
    · exact (zgo_no h).elim
    · simp only [Sum.inr.injEq, Prod.mk.injEq] at h
      obtain ⟨rfl, rfl, rfl⟩ := h
      subst hst
      obtain ⟨n, hn2, g1, g2, g3, g4, g5, g6, -⟩ := zmeth hN (zEv_meth hev hN)
      have hnn : n = As'.length := Option.some.inj (hn2.symm.trans hna)
      subst hnn
      obtain ⟨y, hy, hlk, -, a2, -, a4, -⟩ := zmx_spec hmx
      obtain ⟨ey, hj⟩ := zmlY_eq hN
      cases hy.symm.trans ey
      subst h3
      have hlocs : 8 + (N.2.2.1 + 11) + (zrm d (w2.length - w.length) (zsz w2 - zsz w)).locals ≤ R.locals := by show 8 + (N.2.2.1 + 11) + 35 * d ≤ R.locals; omega
      have hp : PreS s H (zPc G (.ref o :: As') w) (.ref (zad G o) :: As'.map (ztr G)) := ⟨zPc_blind, fun U hU hW => ⟨rfl, hmove U hU hW⟩⟩
      have hstk : (F0 m pc real ((As'.reverse ++ Value.ref o :: rest).map (ztr G))).stack = (As'.map (ztr G)).reverse ++ .ref (zad G o) :: rest.map (ztr G) := by
        show (As'.reverse ++ Value.ref o :: rest).map (ztr G) = _
        rw [List.map_append, List.map_reverse]
        rfl
      have hd2 : N.1.cls ≠ "java/lang/invoke/MethodHandle" ∧ N.1.cls ≠ "java/lang/invoke/VarHandle" ∧ (parseMethodDescriptor N.1.desc).map (fun d => d.parameters.length) = some As'.length := ⟨g2, g3, g5⟩
      have hw0 : zws N = Cond.code N.1 N.2.1 N.2.2.1 none :: zTB := by
        unfold zws zmk
        rw [hret]
      refine fin (N := N) ?_ rfl
      rcases hlk with hlk | ⟨-, host, hlk⟩
      · exact va_runI ⟨hx, hb, hml, hown, hts⟩ (hMet N hN) ⟨callB_of (bytes := N.2.1) (maxL := N.2.2.1) (ret := none) (ws' := zTB) As'.length hts (zws_good (zpm_in hN)) hw0 rfl rfl (hts _ (a4 hj)) (hts _ hlk) hd2 ⟨room, hlocs⟩, hy1, hts _ (a2 (by decide))⟩ hp rfl (by rw [List.length_map]) hsz hstk (hrestcat hcat) hd hc
      · exact va_runIN ⟨hx, hb, hml, hown, hts⟩ (hMet N hN) ⟨va_cnB (bytes := N.2.1) (maxL := N.2.2.1) (ret := none) (ws' := zTB) As'.length hts (zws_good (zpm_in hN)) hw0 rfl rfl (hNW _ hlk) (hts _ (a4 hj)) hd2 ⟨room, hlocs⟩, hy1, hts _ (a2 (by decide))⟩ hp rfl (by rw [List.length_map]) hsz hstk (hrestcat hcat) hd hc
  case invokestatic ix =>
    rcases h with ⟨h3, ⟨x, y, rest', -, -, -, h⟩ | ⟨x, y, rest', -, -, -, h⟩ | ⟨j', As', rest', N, hmx, hN, hna, hst, hcat, h⟩⟩
    · exact (zgo_no h).elim
    · exact (zgo_no h).elim
    · simp only [Sum.inr.injEq, Prod.mk.injEq] at h
      obtain ⟨rfl, rfl, rfl⟩ := h
      subst hst
      subst h3
      obtain ⟨n, hn2, g1, g2, g3, g4, g5, g6, -⟩ := zmeth hN (zEv_meth hev hN)
      have hnn : n = As.length := Option.some.inj (hn2.symm.trans hna)
      subst hnn
      obtain ⟨y, hy, hlk, a1, -, -, a4, -⟩ := zmx_spec hmx
      obtain ⟨ey, hj⟩ := zmlY_eq hN
      cases hy.symm.trans ey
      have hlocs : 8 + (N.2.2.1 + 11) + (zrm d (w2.length - w.length) (zsz w2 - zsz w)).locals ≤ R.locals := by show 8 + (N.2.2.1 + 11) + 35 * d ≤ R.locals; omega
      have hp : PreS s H (zPc G As w) (As.map (ztr G)) := ⟨zPc_blind, fun U hU hW => ⟨rfl, hmove U hU hW⟩⟩
      have hstk : (F0 m pc real ((As.reverse ++ rest).map (ztr G))).stack = (As.map (ztr G)).reverse ++ rest.map (ztr G) := by
        show (As.reverse ++ rest).map (ztr G) = _
        rw [List.map_append, List.map_reverse]
      have hd2 : N.1.cls ≠ "java/lang/invoke/MethodHandle" ∧ N.1.cls ≠ "java/lang/invoke/VarHandle" ∧ (parseMethodDescriptor N.1.desc).map (fun d => d.parameters.length) = some As.length := ⟨g2, g3, g5⟩
      refine fin (N := N) ?_ rfl
      rcases hlk with hlk | ⟨-, host, hlk⟩
      · exact va_runS ⟨hx, hb, hml, hown, hts⟩ (hMet N hN) ⟨callB_of (bytes := N.2.1) (maxL := N.2.2.1) (ret := N.2.2.2.1) (ws' := zTB) As.length hts (zws_good (zpm_in hN)) rfl rfl rfl (hts _ (a4 hj)) (hts _ hlk) hd2 ⟨room, hlocs⟩, hts _ (a1 rfl)⟩ hp rfl (by rw [List.length_map]) hsz hstk (hrestcat hcat) hd hc
      · exact va_runSN ⟨hx, hb, hml, hown, hts⟩ (hMet N hN) ⟨va_cnB (bytes := N.2.1) (maxL := N.2.2.1) (ret := N.2.2.2.1) (ws' := zTB) As.length hts (zws_good (zpm_in hN)) rfl rfl rfl (hNW _ hlk) (hts _ (a4 hj)) hd2 ⟨room, hlocs⟩, hts _ (a1 rfl), trivial⟩ hp rfl (by rw [List.length_map]) hsz hstk (hrestcat hcat) hd hc
  all_goals (rcases zno h with ⟨ix, hh⟩ | ⟨ix, hh⟩ | ⟨ix, hh⟩ <;> cases hh)
end ZINV
end
section
theorem zretI {L : Nat} {xs : Nat → Int32} {M : zPM} {i : Instr} {len pc : Nat} {ls : zL} {st : List Value} {w : zW} {x : Option Value} (h : zStep L xs M i len pc ls st w (.inr (.inl x))) : i = .ireturn ∨ i = .areturn ∨ i = .return_ := by
  cases i
  case aconst_null => exact (zgo_no h.2).elim
  case aload_n k => obtain ⟨-, v, -, -, h⟩ := h; exact (zgo_no h).elim
  case aload k => obtain ⟨-, v, -, -, h⟩ := h; exact (zgo_no h).elim
  case iload_n k => obtain ⟨-, v, -, h⟩ := h; exact (zgo_no h).elim
  case iload k => obtain ⟨-, v, -, h⟩ := h; exact (zgo_no h).elim
  case lload_n k => obtain ⟨-, v, -, h⟩ := h; exact (zgo_no h).elim
  case lload k => obtain ⟨-, v, -, h⟩ := h; exact (zgo_no h).elim
  case iconst n => exact (zgo_no h.2).elim
  case bipush n => exact (zgo_no h.2).elim
  case sipush n => exact (zgo_no h.2).elim
  case lconst n => exact (zgo_no h.2).elim
  case ldc ix => rcases h with ⟨-, ⟨v, -, h⟩ | ⟨-, -, h⟩⟩ <;> exact (zgo_no h).elim
  case ldc_w ix => obtain ⟨-, v, -, h⟩ := h; exact (zgo_no h).elim
  case ldc2_w ix => obtain ⟨-, v, -, h⟩ := h; exact (zgo_no h).elim
  case istore_n k => obtain ⟨-, x, rest, -, -, -, h⟩ := h; exact (zgo_no h).elim
  case istore k => obtain ⟨-, x, rest, -, -, -, h⟩ := h; exact (zgo_no h).elim
  case astore_n k => obtain ⟨-, x, rest, -, -, -, -, h⟩ := h; exact (zgo_no h).elim
  case astore k => obtain ⟨-, x, rest, -, -, -, -, h⟩ := h; exact (zgo_no h).elim
  case iinc k n => obtain ⟨-, x, -, -, h⟩ := h; exact (zgo_no h).elim
  case iadd => obtain ⟨-, x, y, rest, -, h⟩ := h; exact (zgo_no h).elim
  case isub => obtain ⟨-, x, y, rest, -, h⟩ := h; exact (zgo_no h).elim
  case imul => obtain ⟨-, x, y, rest, -, h⟩ := h; exact (zgo_no h).elim
  case idiv => obtain ⟨-, x, y, rest, -, -, h⟩ := h; exact (zgo_no h).elim
  case irem => obtain ⟨-, x, y, rest, -, -, h⟩ := h; exact (zgo_no h).elim
  case iand => obtain ⟨-, x, y, rest, -, h⟩ := h; exact (zgo_no h).elim
  case ior => obtain ⟨-, x, y, rest, -, h⟩ := h; exact (zgo_no h).elim
  case ixor => obtain ⟨-, x, y, rest, -, h⟩ := h; exact (zgo_no h).elim
  case ishl => obtain ⟨-, x, y, rest, -, h⟩ := h; exact (zgo_no h).elim
  case ishr => obtain ⟨-, x, y, rest, -, h⟩ := h; exact (zgo_no h).elim
  case iushr => obtain ⟨-, x, y, rest, -, h⟩ := h; exact (zgo_no h).elim
  case ineg => obtain ⟨-, x, rest, -, h⟩ := h; exact (zgo_no h).elim
  case i2l => obtain ⟨-, x, rest, -, h⟩ := h; exact (zgo_no h).elim
  case lcmp => obtain ⟨-, x, y, rest, -, h⟩ := h; exact (zgo_no h).elim
  case dup => obtain ⟨-, v, rest, -, -, h⟩ := h; exact (zgo_no h).elim
  case dup2 => obtain ⟨-, v, u, rest, -, -, -, h⟩ := h; exact (zgo_no h).elim
  case pop => obtain ⟨-, v, rest, -, -, h⟩ := h; exact (zgo_no h).elim
  case ifCond cd off => obtain ⟨-, x, rest, tgt, -, -, ⟨-, h⟩ | ⟨-, h⟩⟩ := h <;> exact (zgo_no h).elim
  case if_icmp cd off => obtain ⟨-, x, y, rest, tgt, -, -, ⟨-, h⟩ | ⟨-, h⟩⟩ := h <;> exact (zgo_no h).elim
  case ifnull off => obtain ⟨-, ⟨rest, tgt, -, -, h⟩ | ⟨a, rest, -, h⟩⟩ := h <;> exact (zgo_no h).elim
  case ifnonnull off => obtain ⟨-, ⟨a, rest, tgt, -, -, h⟩ | ⟨rest, -, h⟩⟩ := h <;> exact (zgo_no h).elim
  case goto off => obtain ⟨-, tgt, -, h⟩ := h; exact (zgo_no h).elim
  case tableswitch d lo hi offs => obtain ⟨x, rest, tgt, -, -, h⟩ := h; exact (zgo_no h).elim
  case getfield ix => obtain ⟨-, o, rest, ci, k, fs, v, -, -, -, -, h⟩ := h; exact (zgo_no h).elim
  case putfield ix => obtain ⟨-, v, o, rest, ci, k, fs, -, -, ho, -, -, -, h⟩ := h; exact (zgo_no h).elim
  case iaload => obtain ⟨-, j, o, rest, -, ⟨sl, x, -, -, -, h⟩ | ⟨-, -, h⟩⟩ := h <;> exact (zgo_no h).elim
  case iastore => obtain ⟨-, x, j, o, rest, sl, -, ho, -, h⟩ := h; exact (zgo_no h).elim
  case baload => obtain ⟨-, j, o, rest, sl, x, -, -, -, -, h⟩ := h; exact (zgo_no h).elim
  case bastore => obtain ⟨-, x, j, o, rest, sl, -, -, ho, -, h⟩ := h; exact (zgo_no h).elim
  case aaload => obtain ⟨-, j, o, rest, t, sl, v, -, -, -, -, -, -, h⟩ := h; exact (zgo_no h).elim
  case aastore => obtain ⟨-, q, j, o, rest, t, sl, ci, fs, -, -, -, -, ho, -, h⟩ := h; exact (zgo_no h).elim
  case arraylength => obtain ⟨-, o, rest, -, ⟨t, sl, -, -, -, h⟩ | ⟨-, h⟩⟩ := h <;> exact (zgo_no h).elim
  case new ix => obtain ⟨-, ci, -, hw, h⟩ := h; exact (zgo_no h).elim
  case newarray a => obtain ⟨-, n, rest, t, -, -, -, -, hw, h⟩ := h; exact (zgo_no h).elim
  case anewarray ix => obtain ⟨-, n, rest, ci, -, -, -, -, -, hw, h⟩ := h; exact (zgo_no h).elim
  case invokevirtual ix => obtain ⟨-, j, As, o, rest, N, -, -, -, -, -, -, h⟩ := h; cases h
  case invokespecial ix =>
    rcases h with ⟨-, ⟨o, rest, -, -, -, h⟩ | ⟨j, As, o, rest, N, -, -, -, -, -, -, -, h⟩⟩
    · exact (zgo_no h).elim
    · cases h
  case invokestatic ix =>
    rcases h with ⟨-, ⟨x, y, rest, -, -, -, h⟩ | ⟨x, y, rest, -, -, -, h⟩ | ⟨j, As, rest, N, -, -, -, -, -, h⟩⟩
    · exact (zgo_no h).elim
    · exact (zgo_no h).elim
    · cases h
  case ireturn => exact Or.inl rfl
  case areturn => exact Or.inr (Or.inl rfl)
  case return_ => exact Or.inr (Or.inr rfl)
  all_goals exact False.elim h
theorem zrun_mono {L : Nat} {xs : Nat → Int32} {E : Nat → List Value → zW → Option Value → zW → Prop} {M : zPM} (hE : ∀ j As w r w2, E j As w r w2 → w.length ≤ w2.length ∧ zsz w ≤ zsz w2 ∧ (w.length ≤ zlim → w2.length ≤ zlim)) {r : Option Value} {w' : zW} : ∀ (n pc : Nat) (ls : zL) (st : List Value) (w : zW), zRun L xs E M n pc ls st w r w' → w.length ≤ w'.length ∧ zsz w ≤ zsz w' ∧ (w.length ≤ zlim → w'.length ≤ zlim) := by
  intro n
  induction n with
  | zero => intro pc ls st w h; exact False.elim h
  | succ n ih =>
    intro pc ls st w h
    obtain ⟨i, len, sr, hd, hs, hm⟩ := h
    match sr, hs, hm with
    | .inl (pc2, ls2, st2, w2), hs, hm =>
      obtain ⟨a1, a2, a3, -⟩ := zstep_mono hs
      obtain ⟨b1, b2, b3⟩ := ih _ _ _ _ hm
      exact ⟨Nat.le_trans a1 b1, Nat.le_trans a2 b2, fun h => b3 (a3 h)⟩
    | .inr (.inl v), hs, hm =>
      obtain ⟨-, rfl⟩ := hm
      exact ⟨Nat.le_refl _, Nat.le_refl _, id⟩
    | .inr (.inr (j, As, rest)), hs, hm =>
      obtain ⟨v, w2, he, hr⟩ := hm
      obtain ⟨a1, a2, a3⟩ := hE _ _ _ _ _ he
      obtain ⟨b1, b2, b3⟩ := ih _ _ _ _ hr
      exact ⟨Nat.le_trans a1 b1, Nat.le_trans a2 b2, fun h => b3 (a3 h)⟩
section ZRUN
variable {p : Program} {l : Launch} {e : Env} {R : Room} {s : State} {m : MethodId} {args : Array Value} {below : List Frame} {meth : Method} {c : Code} {Q : State → Prop}
variable {G : zG} {M : zPM}
theorem zrun_sound {d n0 s0 : Nat} (IH : zMet G l d) (C : zC G M p s m args meth c) (hfr : d + 1 ≤ R.frames) (hlo : 35 * d + 35 ≤ R.locals) {r : Option Value} {w' : zW}
    (hI : ∀ (H2 : Heap) (locs2 : List Loc) (pc2 : Nat) (real2 : Array Slot) (x : Int32), va_P (zgD G) zcl (ztoW G w') H2 → va_S (zA G) s.heap H2 locs2 → H2.size = zgB G + w'.length → r = some (.int x) → (M.2.2.2.1 = some .int ∨ (M.2.2.2.1 = some .boolean ∧ (x = 0 ∨ x = 1))) → decode M.2.1 pc2 = .ok (.ireturn, 1) → W p l e R s m args below meth c H2 locs2 (w'.length - n0) (zsz w' - s0) Q (F0 m pc2 real2 [.int x]))
    (hA : ∀ (H2 : Heap) (locs2 : List Loc) (pc2 : Nat) (real2 : Array Slot) (v : Value) (nm : String), va_P (zgD G) zcl (ztoW G w') H2 → va_S (zA G) s.heap H2 locs2 → H2.size = zgB G + w'.length → r = some v → zrv v = true → M.2.2.2.1 = some (.object nm) → decode M.2.1 pc2 = .ok (.areturn, 1) → W p l e R s m args below meth c H2 locs2 (w'.length - n0) (zsz w' - s0) Q (F0 m pc2 real2 [ztr G v]))
    (hV : ∀ (H2 : Heap) (locs2 : List Loc) (pc2 : Nat) (real2 : Array Slot), va_P (zgD G) zcl (ztoW G w') H2 → va_S (zA G) s.heap H2 locs2 → H2.size = zgB G + w'.length → r = none → M.2.2.2.1 = none → decode M.2.1 pc2 = .ok (.return_, 1) → W p l e R s m args below meth c H2 locs2 (w'.length - n0) (zsz w' - s0) Q (F0 m pc2 real2 []))
    (hcel : w'.length - n0 ≤ R.cells) (hslo : zsz w' - s0 ≤ R.slots) :
    ∀ (n pc : Nat) (ls : zL) (st : List Value) (w : zW), zRun (zgL G) (zgx G) (zEv (zgL G) (zgx G) d) M n pc ls st w r w' → n0 ≤ w.length → s0 ≤ zsz w → w.length ≤ zlim →
      ∀ (H : Heap) (locs : List Loc) (real : Array Slot), va_P (zgD G) zcl (ztoW G w) H → va_S (zA G) s.heap H locs → H.size = zgB G + w.length → zls G M.2.2.1 ls real → W p l e R s m args below meth c H locs (w.length - n0) (zsz w - s0) Q (F0 m pc real (st.map (ztr G))) := by
  have hE : ∀ j As w r w2, zEv (zgL G) (zgx G) d j As w r w2 → w.length ≤ w2.length ∧ zsz w ≤ zsz w2 ∧ (w.length ≤ zlim → w2.length ≤ zlim) := fun j As w r w2 h => (IH j As w r w2 h).1
  intro n
  induction n with
  | zero => intro pc ls st w h; exact False.elim h
  | succ n ih =>
    intro pc ls st w h hn hz hlim H locs real hP hS hH hl
    obtain ⟨i, len, sr, hd, hs, hm⟩ := h
    match sr, hs, hm with
    | .inl (pc2, ls2, st2, w2), hs, hm =>
      obtain ⟨a1, a2, a3, -⟩ := zstep_mono hs
      obtain ⟨b1, b2, b3⟩ := zrun_mono hE _ _ _ _ _ hm
      exact zgo_sound C (by omega) (by omega) hd hs hn hz (by omega) (by omega) hlim hP hS hH hl (fun H2 locs2 real2 hP2 hS2 hH2 hl2 => ih _ _ _ _ hm (by omega) (by omega) (a3 hlim) H2 locs2 real2 hP2 hS2 hH2 hl2)
    | .inr (.inl v), hs, hm =>
      obtain ⟨rfl, rfl⟩ := hm
      rcases zretI hs with rfl | rfl | rfl
      · obtain ⟨rfl, x, rfl, hret, h⟩ := hs
        simp only [Sum.inr.injEq, Sum.inl.injEq] at h
        exact hI H locs pc real x hP hS hH h hret hd
      · obtain ⟨rfl, v, nm, rfl, hv, hret, h⟩ := hs
        simp only [Sum.inr.injEq, Sum.inl.injEq] at h
        exact hA H locs pc real v nm hP hS hH h hv hret hd
      · obtain ⟨rfl, rfl, hret, h⟩ := hs
        simp only [Sum.inr.injEq, Sum.inl.injEq] at h
        exact hV H locs pc real hP hS hH h hret hd
    | .inr (.inr (j, As, rest)), hs, hm =>
      obtain ⟨v, w2, he, hr⟩ := hm
      obtain ⟨a1, a2, a3⟩ := hE _ _ _ _ _ he
      obtain ⟨b1, b2, b3⟩ := zrun_mono hE _ _ _ _ _ hr
      exact zinv_sound IH C hfr hlo hd hs he hn hz (by omega) (by omega) hlim hP hS hH hl (fun H2 locs2 hP2 hS2 hH2 => ih _ _ _ _ hr (by omega) (by omega) (a3 hlim) H2 locs2 real hP2 hS2 hH2 hl)
end ZRUN
-- ===== the start: locals =====
theorem zargs_mem {G : zG} : ∀ (As : List Value) (k i : Nat) (v : Value), (zargs As)[i]? = some (some v) → (k + i, ztr G v) ∈ lv_args k (As.map (ztr G))
  | [], k, i, v, h => by simp [zargs] at h
  | a :: As, k, i, v, h => by
    unfold zargs at h
    rw [List.map_cons]
    unfold lv_args
    rw [ztr_cat]
    by_cases hc : a.category = 2
    · rw [if_pos hc] at h ⊢
      match i, h with
      | 0, h => cases h; exact List.mem_cons_self
      | 1, h => simp at h
      | i + 2, h =>
        have h2 : (zargs As)[i]? = some (some v) := by simpa using h
        have := zargs_mem (G := G) As (k + 2) i v h2
        rw [show k + (i + 2) = k + 2 + i by omega]
        exact List.mem_cons_of_mem _ this
    · rw [if_neg hc] at h ⊢
      match i, h with
      | 0, h => cases h; exact List.mem_cons_self
      | i + 1, h =>
        have h2 : (zargs As)[i]? = some (some v) := by simpa using h
        have := zargs_mem (G := G) As (k + 1) i v h2
        rw [show k + (i + 1) = k + 1 + i by omega]
        exact List.mem_cons_of_mem _ this
theorem zargs_len {G : zG} : ∀ (As : List Value), (lg_sl (As.map (ztr G))).length = (zargs As).length
  | [] => rfl
  | a :: As => by
    have ih := zargs_len (G := G) As
    unfold lg_sl at ih ⊢
    rw [List.map_cons, List.flatMap_cons, List.length_append, ih, ztr_cat]
    have ez : zargs (a :: As) = if a.category = 2 then some a :: none :: zargs As else some a :: zargs As := rfl
    rw [ez]
    by_cases hc : a.category = 2
    · rw [if_pos hc, if_pos hc]; simp only [List.length_cons, List.length_nil]; omega
    · rw [if_neg hc, if_neg hc]; simp only [List.length_cons, List.length_nil]; omega
theorem zini_ls {G : zG} {As : List Value} {maxL : Nat} {real : Array Slot} (hA : (zargs As).length ≤ maxL) (h : lv_has real maxL (lv_args 0 (As.map (ztr G)))) : zls G maxL (zini maxL As) real := by
  refine ⟨by unfold zini; rw [List.length_append, List.length_replicate]; omega, h.1, h.2.1, fun i v hi => ?_⟩
  unfold zini at hi
  by_cases hl : i < (zargs As).length
  · rw [List.getElem?_append_left hl] at hi
    have h1 := zargs_mem (G := G) As 0 i v hi
    rw [Nat.zero_add] at h1
    exact h.2.2 _ h1
  · rw [List.getElem?_append_right (by omega), List.getElem?_replicate] at hi
    split at hi <;> cases hi
/-- what the JDK's two methods must keep -/
def zJdk (G : zG) (l : Launch) (d : Nat) : Prop := ∀ N, (zpms[zjLen]? = some N → ∀ w, Met l N.1 (zws N) (zrm d 0 0) (zPc G [.ref zSTR] w) (zQc G (some (.int 97)) w) 0 0 (zA G)) ∧ (zpms[zjCh]? = some N → ∀ w i, i < 97 → Met l N.1 (zws N) (zrm d 0 0) (zPc G [.ref zSTR, .int (nI i)] w) (zQc G (some (.int (zbyt i))) w) 0 0 (zA G))
theorem zMet_succ {G : zG} {l : Launch} {d : Nat} (IH : zMet G l d) (hJ : 4 ≤ d → zJdk G l (d + 1)) : zMet G l (d + 1) := by
  intro j As w r w2 hev
  rcases hev with ⟨rfl, h4, rfl, rfl, rfl⟩ | ⟨rfl, h4, i, hi, rfl, rfl, rfl⟩ | ⟨M, n, hM, ho, hargs, hrun⟩
  · refine ⟨⟨Nat.le_refl _, Nat.le_refl _, id⟩, fun N hN => ?_⟩
    rw [Nat.sub_self, Nat.sub_self]
    exact (hJ h4 N).1 hN w2
  · refine ⟨⟨Nat.le_refl _, Nat.le_refl _, id⟩, fun N hN => ?_⟩
    rw [Nat.sub_self, Nat.sub_self]
    exact (hJ h4 N).2 hN w2 i hi
  · have hmono := zrun_mono (fun j As w r w2 h => (IH j As w r w2 h).1) _ _ _ _ _ hrun
    refine ⟨hmono, fun N hN => ?_⟩
    cases hN.symm.trans hM
    obtain ⟨na, -, g1, -, -, g4, -, -, g7⟩ := zmeth hM (Or.inl ho)
    refine Met.ofW (cc := M.2.1) (maxL := M.2.2.1) (ret := M.2.2.2.1) g4 rfl ?_
    intro p e s m args below meth c s₁ B hml hv
    obtain ⟨rfl, hSt, hP, hH, hlim⟩ := hv
    have hx := B.exec
    have hb := B.bytes
    have hr := B.returns
    have hts0 := atoms_spec (ws := zws M) B.pre
    have hown := findClass_of_methodNamed B.named
    have hlocks := B.notSynchronized
    have hname := (name_of_methodNamed B.named B.method).1
    have hcn := g7 ho
    have C : zC G M p s m (As.map (ztr G)).toArray meth c := ⟨hx, hb, hml, fun w hw => hts0 w (List.mem_cons_of_mem _ hw), by rw [hcn]; exact hown, fun h => hname.trans h, hcn, hSt, by omega⟩
    have hl0 := lv_entry (As.map (ztr G)) (n := M.2.2.1) (by rw [zargs_len]; exact hargs)
    have hl := zini_ls hargs hl0
    rw [lg_entry_eq]
    have key := zrun_sound (R := (headSpec (zws M) (zrm (d + 1) (w2.length - w.length) (zsz w2 - zsz w))).room) (e := e) (below := below) (Q := MQ below (zQc G r w2) (As.map (ztr G)).toArray s (w2.length - w.length) (zsz w2 - zsz w) (zA G)) (n0 := w.length) (s0 := zsz w) IH C (Nat.le_refl _) (by show 35 * d + 35 ≤ 35 * (d + 1); omega) (r := r) (w' := w2)
      (fun H2 locs2 pc2 real2 x hP2 hS2 hH2 hr2 hret hdg => ?_) (fun H2 locs2 pc2 real2 v nm hP2 hS2 hH2 hr2 hv hret hdg => ?_) (fun H2 locs2 pc2 real2 hP2 hS2 hH2 hr2 hret hdg => ?_) (Nat.le_refl _) (Nat.le_refl _) n 0 _ [] w hrun (Nat.le_refl _) (Nat.le_refl _) hlim s.heap [] _ hP va_S.rf hH hl
    · rw [Nat.sub_self, Nat.sub_self] at key
      exact key
    · subst hr2
      have hq : ∀ t : State, t.heap = H2 → s.WarmedH t.vm → zQc G (some (.int x)) w2 (As.map (ztr G)).toArray s (.returned (some (.int x))) t := fun t ht hW => ⟨⟨rfl, by rw [ht]; exact hP2, by rw [ht]; exact hH2⟩, hS2.F ht⟩
      rcases hret with hret | ⟨hret, hx01⟩
      · exact W.zret (ty := .int) hx hb (hr.trans hret) rfl hq hS2.2.2 hdg hlocks
      · exact W.zret (ty := .boolean) hx hb (hr.trans hret) (by rcases hx01 with rfl | rfl <;> decide) hq hS2.2.2 hdg hlocks
    · subst hr2
      have hq : ∀ t : State, t.heap = H2 → s.WarmedH t.vm → zQc G (some v) w2 (As.map (ztr G)).toArray s (.returned (some (ztr G v))) t := fun t ht hW => ⟨⟨rfl, by rw [ht]; exact hP2, by rw [ht]; exact hH2⟩, hS2.F ht⟩
      exact W.aret hx hb (hr.trans hret) (Or.inl ⟨nm, rfl⟩) (by rcases zrv_cases hv with ⟨a, rfl⟩ | rfl; exact Or.inr ⟨_, rfl⟩; exact Or.inl rfl) hq hS2.2.2 hdg hlocks
    · subst hr2
      have hq : ∀ t : State, t.heap = H2 → s.WarmedH t.vm → zQc G none w2 (As.map (ztr G)).toArray s (.returned none) t := fun t ht hW => ⟨⟨rfl, by rw [ht]; exact hP2, by rw [ht]; exact hH2⟩, hS2.F ht⟩
      exact W.vret hx hb (hr.trans hret) hq hS2.2.2 hdg hlocks
end
section
-- ===== the JDK's methods that the text needs =====
def zjQ (r : Option Value) : Array Value → State → Outcome → State → Prop := fun _ st oc t => oc = .returned r ∧ t.heap = st.heap
def zjP (G : zG) (av : List Value) : Array Value → State → Prop := va_Pc av (fun U => zStr G U U.heap)
theorem zStr_same {G : zG} {U V : State} {H : Heap} (hv : U.vm = V.vm) (h : zStr G U H) : zStr G V H := by
  obtain ⟨hs1, hs2, hs3, hs4⟩ := h
  have hA : U.vm.Alike V.vm := by rw [hv]; exact Vm.Alike.refl _
  exact ⟨hs1.moved hA, hs2.same hv.symm, hs3.moved hA, hs4.moved hA⟩
theorem zStr_move {G : zG} {s U : State} {H : Heap} {locs : List Loc} (h : zStr G s s.heap) (hS : va_S (zA G) s.heap H locs) (hU : U.heap = H) (hW : s.WarmedH U.vm) : zStr G U U.heap := by
  obtain ⟨hs1, hs2, hs3, hs4⟩ := h
  have hq : ∀ a : Nat, a < s.heap.size → ¬ zA G a → U.heap[a]? = s.heap[a]? := fun a h1 h2 => by rw [hU]; exact hS.2.1 a h1 h2
  exact ⟨(hs1.kept hq).moved hW.alike, hs2.warm hW, (hs3.kept hq).moved hW.alike, (hs4.kept hq).moved hW.alike⟩
theorem zjP_blind {G : zG} {av : List Value} : FrameBlind (zjP G av) := by
  intro a U g mk h
  exact ⟨h.1, zStr_same (U := U) (V := U.calling g mk a) rfl h.2⟩
abbrev zjMet (G : zG) (l : Launch) (N : zPM) (d : Nat) (av : List Value) (r : Option Value) : Prop := Met l N.1 (zws N) (zrm d 0 0) (zjP G av) (zjQ r) 0 0 (zA G)
theorem zjof {G : zG} {l : Launch} {N : zPM} (hp : plainName N.1.cls = true) {d : Nat} {av : List Value} {r : Option Value} (hlen : (lg_sl av).length ≤ N.2.2.1)
    (body : ∀ (p : Program) (e : Env) (s : State) (m : MethodId) (below : List Frame) (meth : Method) (c : Code) (real : Array Slot), p.tables.exec = Jvm.exec → c.code = N.2.1 → c.maxLocals = N.2.2.1 → meth.sig.returnType = N.2.2.2.1 → (∀ w ∈ zTB, w.before av.toArray s = true) → s.vm.findClass N.1.cls = some m.cls → meth.locks = false → zStr G s s.heap → lv_has real N.2.2.1 (lv_args 0 av) → va_S (zA G) s.heap s.heap [] →
      W p l e (zrm d 0 0) s m av.toArray below meth c s.heap [] 0 0 (MQ below (zjQ r) av.toArray s 0 0 (zA G)) (F0 m 0 real [])) : zjMet G l N d av r := by
  refine Met.ofW (cc := N.2.1) (maxL := N.2.2.1) (ret := N.2.2.2.1) hp rfl ?_
  intro p e s m args below meth c s₁ B hml hv
  obtain ⟨rfl, hs⟩ := hv
  have hts0 := atoms_spec (ws := zws N) B.pre
  have hl := lv_entry av (n := N.2.2.1) hlen
  rw [lg_entry_eq]
  exact body p e s m below meth c _ B.exec B.bytes hml B.returns (fun w hw => hts0 w (List.mem_cons_of_mem _ hw)) (findClass_of_methodNamed B.named) B.notSynchronized hs hl va_S.rf
section ZJ
variable {p : Program} {l : Launch} {e : Env} {R : Room} {s : State} {m : MethodId} {args : Array Value} {below : List Frame} {meth : Method} {c : Code} {locs : List Loc} {cells slots : Nat} {Q : State → Prop} {cc : ByteArray} {pc : Nat} {real : Array Slot} {G : zG}
theorem zjcallS {own : String} {ix nL d : Nat} {N : zPM} {av rest : List Value} {r : Option Value} (hM : zjMet G l N d av r) (S : CallFix p m c cc nL s args zTB own) (hN : zmk N ∈ zTB) (hmaxL : N.2.2.1 ≤ 16) (hini : Cond.initialized N.1.cls ∈ zTB) (hlk : Cond.methodLink own ix N.1 ∈ zTB) (hst : Cond.static N.1 ∈ zTB)
    (hd : N.1.cls ≠ "java/lang/invoke/MethodHandle" ∧ N.1.cls ≠ "java/lang/invoke/VarHandle" ∧ (parseMethodDescriptor N.1.desc).map (fun d => d.parameters.length) = some av.length) (hstr : zStr G s s.heap) (hS : va_S (zA G) s.heap s.heap locs) (hcat : (rest.map fun v => v.category).sum ≤ 8) (hsize : real.size = nL) (hdg : decode cc pc = .ok (.invokestatic ix, 3)) (hR : d + 1 ≤ R.frames ∧ 35 * d + 35 ≤ R.locals) (hc : cells ≤ R.cells ∧ slots ≤ R.slots)
    (kk : ∀ locs1, va_S (zA G) s.heap s.heap locs1 → W p l e R s m args below meth c s.heap locs1 cells slots Q (F0 m (pc + 3) real (r.toList ++ rest))) : W p l e R s m args below meth c s.heap locs cells slots Q (F0 m pc real (av.reverse ++ rest)) := by
  have hp : PreS s s.heap (zjP G av) av := ⟨zjP_blind, fun U hU hW => ⟨rfl, zStr_move hstr hS hU hW⟩⟩
  have hts := S.2.2.2.2
  refine zcall (va_runS (mc := 0) (ms := 0) S hM ⟨callB_of (bytes := N.2.1) (maxL := N.2.2.1) (ret := N.2.2.2.1) (ws' := zTB) av.length hts (zws_good hN) rfl rfl rfl (hts _ hini) (hts _ hlk) hd ⟨hR.1, by show 8 + (N.2.2.1 + 11) + 35 * d ≤ R.locals; omega⟩, hts _ hst⟩ hp rfl rfl hsize rfl (lv_room hcat) hdg hc) hS (fun q h => h) (fun st oc t h => ⟨by rw [h.2]; exact Nat.le_refl _, fun q _ _ => by rw [h.2]⟩) (fun v st₀ t H1 locs1 ht h0 hq hS1 => ?_)
  obtain ⟨hv, hh⟩ := hq
  cases hv
  have e1 : H1 = s.heap := by rw [← ht, hh, h0]
  subst e1
  exact kk locs1 hS1
theorem zjcallV {own : String} {ix nL d b : Nat} {N : zPM} {av rest : List Value} {r : Option Value} (hM : zjMet G l N d (.ref b :: av) r) (S : CallFix p m c cc nL s args zTB own) (hN : zmk N ∈ zTB) (hmaxL : N.2.2.1 ≤ 16) (hini : Cond.initialized N.1.cls ∈ zTB) (hlk : Cond.methodLink own ix N.1 ∈ zTB) (hin : Cond.instanceMethod N.1 ∈ zTB) (hsel : Cond.selects N.1.cls N.1 N.1 ∈ zTB)
    (hrecv : ∃ cellB : Cell, s.heap[b]? = some cellB ∧ cellB.vm.isStatics = false ∧ s.vm.findClass N.1.cls = some cellB.cls)
    (hd : N.1.cls ≠ "java/lang/invoke/MethodHandle" ∧ N.1.cls ≠ "java/lang/invoke/VarHandle" ∧ (parseMethodDescriptor N.1.desc).map (fun d => d.parameters.length) = some av.length) (hstr : zStr G s s.heap) (hS : va_S (zA G) s.heap s.heap locs) (hcat : (rest.map fun v => v.category).sum ≤ 8) (hsize : real.size = nL) (hdg : decode cc pc = .ok (.invokevirtual ix, 3)) (hR : d + 1 ≤ R.frames ∧ 35 * d + 35 ≤ R.locals) (hc : cells ≤ R.cells ∧ slots ≤ R.slots)
    (kk : ∀ locs1, va_S (zA G) s.heap s.heap locs1 → W p l e R s m args below meth c s.heap locs1 cells slots Q (F0 m (pc + 3) real (r.toList ++ rest))) : W p l e R s m args below meth c s.heap locs cells slots Q (F0 m pc real (av.reverse ++ .ref b :: rest)) := by
  have hp : PreV s s.heap N.1.cls b (zjP G (.ref b :: av)) av := ⟨zjP_blind, hrecv, fun U hU hW => ⟨rfl, zStr_move hstr hS hU hW⟩⟩
  have hts := S.2.2.2.2
  refine zcall (va_runV (mc := 0) (ms := 0) S hM ⟨callB_of (bytes := N.2.1) (maxL := N.2.2.1) (ret := N.2.2.2.1) (ws' := zTB) av.length hts (zws_good hN) rfl rfl rfl (hts _ hini) (hts _ hlk) hd ⟨hR.1, by show 8 + (N.2.2.1 + 11) + 35 * d ≤ R.locals; omega⟩, hts _ hin, hts _ hsel⟩ hp rfl rfl hsize rfl (lv_room hcat) hdg hc) hS (fun q h => h) (fun st oc t h => ⟨by rw [h.2]; exact Nat.le_refl _, fun q _ _ => by rw [h.2]⟩) (fun v st₀ t H1 locs1 ht h0 hq hS1 => ?_)
  obtain ⟨hv, hh⟩ := hq
  cases hv
  have e1 : H1 = s.heap := by rw [← ht, hh, h0]
  subst e1
  exact kk locs1 hS1
end ZJ
abbrev yjLen : zPM := (⟨"java/lang/String", "length", "()I"⟩, prog_15_method_54_code, 1, (Option.some Jvm.ClassFile.FieldType.int), 99)
set_option maxRecDepth 100000 in
theorem yjLen_in : zmk yjLen ∈ zTB := zpm_in (j := 25) rfl
abbrev yjCod : zPM := (⟨"java/lang/String", "coder", "()B"⟩, prog_15_method_152_code, 1, (Option.some Jvm.ClassFile.FieldType.byte), 99)
set_option maxRecDepth 100000 in
theorem yjCod_in : zmk yjCod ∈ zTB := zpm_in (j := 26) rfl
abbrev yjCh : zPM := (⟨"java/lang/String", "charAt", "(I)C"⟩, prog_15_method_56_code, 2, (Option.some Jvm.ClassFile.FieldType.char), 99)
set_option maxRecDepth 100000 in
theorem yjCh_in : zmk yjCh ∈ zTB := zpm_in (j := 27) rfl
abbrev yjLat : zPM := (⟨"java/lang/String", "isLatin1", "()Z"⟩, prog_15_method_154_code, 1, (Option.some Jvm.ClassFile.FieldType.boolean), 99)
set_option maxRecDepth 100000 in
theorem yjLat_in : zmk yjLat ∈ zTB := zpm_in (j := 28) rfl
abbrev yjLCh : zPM := (⟨"java/lang/StringLatin1", "charAt", "([BI)C"⟩, prog_16_method_2_code, 2, (Option.some Jvm.ClassFile.FieldType.char), 99)
set_option maxRecDepth 100000 in
theorem yjLCh_in : zmk yjLCh ∈ zTB := zpm_in (j := 29) rfl
abbrev yjCI : zPM := (⟨"java/lang/String", "checkIndex", "(II)V"⟩, prog_15_method_155_code, 2, (Option.none : Option Jvm.ClassFile.FieldType), 99)
set_option maxRecDepth 100000 in
theorem yjCI_in : zmk yjCI ∈ zTB := zpm_in (j := 30) rfl
abbrev yjPC : zPM := (⟨"jdk/internal/util/Preconditions", "checkIndex", "(IILjava/util/function/BiFunction;)I"⟩, prog_18_method_11_code, 3, (Option.some Jvm.ClassFile.FieldType.int), 99)
set_option maxRecDepth 100000 in
theorem yjPC_in : zmk yjPC ∈ zTB := zpm_in (j := 31) rfl
theorem yjCod_0 : decode yjCod.2.1 0 = .ok (.getstatic 38, 3) := by decide +kernel
theorem yjCod_3 : decode yjCod.2.1 3 = .ok (.ifCond .eq 10, 3) := by decide +kernel
theorem yjCod_6 : decode yjCod.2.1 6 = .ok (.aload_n 0, 1) := by decide +kernel
theorem yjCod_7 : decode yjCod.2.1 7 = .ok (.getfield 15, 3) := by decide +kernel
theorem yjCod_10 : decode yjCod.2.1 10 = .ok (.goto 4, 3) := by decide +kernel
theorem yjCod_14 : decode yjCod.2.1 14 = .ok (.ireturn, 1) := by decide +kernel
theorem yjLat_0 : decode yjLat.2.1 0 = .ok (.getstatic 38, 3) := by decide +kernel
theorem yjLat_3 : decode yjLat.2.1 3 = .ok (.ifCond .eq 14, 3) := by decide +kernel
theorem yjLat_6 : decode yjLat.2.1 6 = .ok (.aload_n 0, 1) := by decide +kernel
theorem yjLat_7 : decode yjLat.2.1 7 = .ok (.getfield 15, 3) := by decide +kernel
theorem yjLat_10 : decode yjLat.2.1 10 = .ok (.ifCond .ne 7, 3) := by decide +kernel
theorem yjLat_13 : decode yjLat.2.1 13 = .ok (.iconst 1, 1) := by decide +kernel
theorem yjLat_14 : decode yjLat.2.1 14 = .ok (.goto 4, 3) := by decide +kernel
theorem yjLat_18 : decode yjLat.2.1 18 = .ok (.ireturn, 1) := by decide +kernel
theorem yjLen_0 : decode yjLen.2.1 0 = .ok (.aload_n 0, 1) := by decide +kernel
theorem yjLen_1 : decode yjLen.2.1 1 = .ok (.getfield 9, 3) := by decide +kernel
theorem yjLen_4 : decode yjLen.2.1 4 = .ok (.arraylength, 1) := by decide +kernel
theorem yjLen_5 : decode yjLen.2.1 5 = .ok (.aload_n 0, 1) := by decide +kernel
theorem yjLen_6 : decode yjLen.2.1 6 = .ok (.invokevirtual 335, 3) := by decide +kernel
theorem yjLen_9 : decode yjLen.2.1 9 = .ok (.ishr, 1) := by decide +kernel
theorem yjLen_10 : decode yjLen.2.1 10 = .ok (.ireturn, 1) := by decide +kernel
theorem yjCh_0 : decode yjCh.2.1 0 = .ok (.aload_n 0, 1) := by decide +kernel
theorem yjCh_1 : decode yjCh.2.1 1 = .ok (.invokevirtual 492, 3) := by decide +kernel
theorem yjCh_4 : decode yjCh.2.1 4 = .ok (.ifCond .eq 12, 3) := by decide +kernel
theorem yjCh_7 : decode yjCh.2.1 7 = .ok (.aload_n 0, 1) := by decide +kernel
theorem yjCh_8 : decode yjCh.2.1 8 = .ok (.getfield 9, 3) := by decide +kernel
theorem yjCh_11 : decode yjCh.2.1 11 = .ok (.iload_n 1, 1) := by decide +kernel
theorem yjCh_12 : decode yjCh.2.1 12 = .ok (.invokestatic 495, 3) := by decide +kernel
theorem yjCh_15 : decode yjCh.2.1 15 = .ok (.ireturn, 1) := by decide +kernel
theorem yjLCh_0 : decode yjLCh.2.1 0 = .ok (.iload_n 1, 1) := by decide +kernel
theorem yjLCh_1 : decode yjLCh.2.1 1 = .ok (.aload_n 0, 1) := by decide +kernel
theorem yjLCh_2 : decode yjLCh.2.1 2 = .ok (.arraylength, 1) := by decide +kernel
theorem yjLCh_3 : decode yjLCh.2.1 3 = .ok (.invokestatic 9, 3) := by decide +kernel
theorem yjLCh_6 : decode yjLCh.2.1 6 = .ok (.aload_n 0, 1) := by decide +kernel
theorem yjLCh_7 : decode yjLCh.2.1 7 = .ok (.iload_n 1, 1) := by decide +kernel
theorem yjLCh_8 : decode yjLCh.2.1 8 = .ok (.baload, 1) := by decide +kernel
theorem yjLCh_9 : decode yjLCh.2.1 9 = .ok (.sipush 255, 3) := by decide +kernel
theorem yjLCh_12 : decode yjLCh.2.1 12 = .ok (.iand, 1) := by decide +kernel
theorem yjLCh_13 : decode yjLCh.2.1 13 = .ok (.i2c, 1) := by decide +kernel
theorem yjLCh_14 : decode yjLCh.2.1 14 = .ok (.ireturn, 1) := by decide +kernel
theorem yjCI_0 : decode yjCI.2.1 0 = .ok (.iload_n 0, 1) := by decide +kernel
theorem yjCI_1 : decode yjCI.2.1 1 = .ok (.iload_n 1, 1) := by decide +kernel
theorem yjCI_2 : decode yjCI.2.1 2 = .ok (.getstatic 1053, 3) := by decide +kernel
theorem yjCI_5 : decode yjCI.2.1 5 = .ok (.invokestatic 1059, 3) := by decide +kernel
theorem yjCI_8 : decode yjCI.2.1 8 = .ok (.pop, 1) := by decide +kernel
theorem yjCI_9 : decode yjCI.2.1 9 = .ok (.return_, 1) := by decide +kernel
theorem yjPC_0 : decode yjPC.2.1 0 = .ok (.iload_n 0, 1) := by decide +kernel
theorem yjPC_1 : decode yjPC.2.1 1 = .ok (.ifCond .lt 8, 3) := by decide +kernel
theorem yjPC_4 : decode yjPC.2.1 4 = .ok (.iload_n 0, 1) := by decide +kernel
theorem yjPC_5 : decode yjPC.2.1 5 = .ok (.iload_n 1, 1) := by decide +kernel
theorem yjPC_6 : decode yjPC.2.1 6 = .ok (.if_icmp .lt 10, 3) := by decide +kernel
theorem yjPC_16 : decode yjPC.2.1 16 = .ok (.iload_n 0, 1) := by decide +kernel
theorem yjPC_17 : decode yjPC.2.1 17 = .ok (.ireturn, 1) := by decide +kernel
theorem zjF38 : Cond.fieldLink "java/lang/String" 38 "java/lang/String" "COMPACT_STRINGS" "Z" ∈ zTB := zok_in (k := 444) (by decide +kernel)
theorem zjF15 : Cond.fieldLink "java/lang/String" 15 "java/lang/String" "coder" "B" ∈ zTB := zok_in (k := 1432) (by decide +kernel)
theorem zjF9 : Cond.fieldLink "java/lang/String" 9 "java/lang/String" "value" "[B" ∈ zTB := zok_in (k := 1431) (by decide +kernel)
theorem zjF1053 : Cond.fieldLink "java/lang/String" 1053 "jdk/internal/util/Preconditions" "SIOOBE_FORMATTER" "Ljava/util/function/BiFunction;" ∈ zTB := zok_in (k := 460) (by decide +kernel)
theorem zjL335 : Cond.methodLink "java/lang/String" 335 yjCod.1 ∈ zTB := zok_in (k := 440) (by decide +kernel)
theorem zjL335i : Cond.instanceMethod yjCod.1 ∈ zTB := zok_in (k := 441) (by decide +kernel)
theorem zjL335s : Cond.selects yjCod.1.cls yjCod.1 yjCod.1 ∈ zTB := zok_in (k := 442) (by decide +kernel)
theorem zjL492 : Cond.methodLink "java/lang/String" 492 yjLat.1 ∈ zTB := zok_in (k := 450) (by decide +kernel)
theorem zjL492i : Cond.instanceMethod yjLat.1 ∈ zTB := zok_in (k := 451) (by decide +kernel)
theorem zjL492s : Cond.selects yjLat.1.cls yjLat.1 yjLat.1 ∈ zTB := zok_in (k := 452) (by decide +kernel)
theorem zjL495 : Cond.methodLink "java/lang/String" 495 yjLCh.1 ∈ zTB := zok_in (k := 454) (by decide +kernel)
theorem zjL495s : Cond.static yjLCh.1 ∈ zTB := zok_in (k := 455) (by decide +kernel)
theorem zjL9 : Cond.methodLink "java/lang/StringLatin1" 9 yjCI.1 ∈ zTB := zok_in (k := 457) (by decide +kernel)
theorem zjL9s : Cond.static yjCI.1 ∈ zTB := zok_in (k := 458) (by decide +kernel)
theorem zjL1059 : Cond.methodLink "java/lang/String" 1059 yjPC.1 ∈ zTB := zok_in (k := 462) (by decide +kernel)
theorem zjL1059s : Cond.static yjPC.1 ∈ zTB := zok_in (k := 463) (by decide +kernel)
theorem zjI1 : Cond.initialized "java/lang/String" ∈ zTB := zok_in (k := 78) (by decide +kernel)
theorem zjI2 : Cond.initialized "java/lang/StringLatin1" ∈ zTB := zok_in (k := 79) (by decide +kernel)
theorem zjI3 : Cond.initialized "jdk/internal/util/Preconditions" ∈ zTB := zok_in (k := 80) (by decide +kernel)
theorem zbyt_ok : ∀ i, i < 97 → ((zbyt i &&& 255).toUInt32 % 65536).toInt32 = zbyt i ∧ narrow .char (.int (zbyt i)) = .int (zbyt i) := by decide +kernel
section ZJM
variable {l : Launch} {G : zG}
theorem zjm_Cod (d : Nat) : zjMet G l yjCod d [.ref (zgs G)] (some (.int 0)) := by
  refine zjof rfl (Nat.le_of_ble_eq_true rfl) ?_
  intro p e s m below meth c real hx hb hml hr hts hown hlocks hstr hl hS
  have hl0 : real[0]? = some (.val (.ref (zgs G))) := hl.2.2 (0, .ref (zgs G)) List.mem_cons_self
  have hO := (hstr.1.1 0 (by decide)).2.1
  refine va_gets hx hb hstr.2.2.1 hS hown (hts _ zjF38) (fun _ h => h) yjCod_0 ?_
  refine lv_if_eq (tgt := 13) hx hb yjCod_3 (by decide) (fun h => absurd h (by decide)) (fun _ => ?_)
  refine lv_aload_n hx hb yjCod_6 rfl hl0 ?_
  refine vk_getf hx hb hO hS hown (hts _ zjF15) (fun _ h => h) yjCod_7 ?_
  refine lv_goto (tgt := 14) hx hb yjCod_10 (by decide) ?_
  exact W.zret (ty := .byte) hx hb hr (by decide) (fun t ht hW => ⟨rfl, ht⟩) hS.2.2 yjCod_14 hlocks
theorem zjm_Lat (d : Nat) : zjMet G l yjLat d [.ref (zgs G)] (some (.int 1)) := by
  refine zjof rfl (Nat.le_of_ble_eq_true rfl) ?_
  intro p e s m below meth c real hx hb hml hr hts hown hlocks hstr hl hS
  have hl0 : real[0]? = some (.val (.ref (zgs G))) := hl.2.2 (0, .ref (zgs G)) List.mem_cons_self
  have hO := (hstr.1.1 0 (by decide)).2.1
  refine va_gets hx hb hstr.2.2.1 hS hown (hts _ zjF38) (fun _ h => h) yjLat_0 ?_
  refine lv_if_eq (tgt := 17) hx hb yjLat_3 (by decide) (fun h => absurd h (by decide)) (fun _ => ?_)
  refine lv_aload_n hx hb yjLat_6 rfl hl0 ?_
  refine vk_getf hx hb hO hS hown (hts _ zjF15) (fun _ h => h) yjLat_7 ?_
  refine lv_if_ne (tgt := 17) hx hb yjLat_10 (by decide) (fun h => absurd rfl h) (fun _ => ?_)
  refine lv_iconst (v := 1) hx hb yjLat_13 rfl ?_
  refine lv_goto (tgt := 18) hx hb yjLat_14 (by decide) ?_
  exact W.zret (ty := .boolean) hx hb hr (by decide) (fun t ht hW => ⟨rfl, ht⟩) hS.2.2 yjLat_18 hlocks
theorem zjm_PC (d i n : Nat) (f : Value) (hi : i < n) (hn : n < 2 ^ 31) (hf : f = .null ∨ ∃ q, f = .ref q) : zjMet G l yjPC d [.int (nI i), .int (nI n), f] (some (.int (nI i))) := by
  refine zjof (by decide) (by rcases hf with rfl | ⟨q, rfl⟩ <;> exact Nat.le_of_ble_eq_true rfl) ?_
  intro p e s m below meth c real hx hb hml hr hts hown hlocks hstr hl hS
  have hl0 : real[0]? = some (.val (.int (nI i))) := hl.2.2 (0, .int (nI i)) List.mem_cons_self
  have hl1 : real[1]? = some (.val (.int (nI n))) := hl.2.2 (1, .int (nI n)) (List.mem_cons_of_mem _ List.mem_cons_self)
  refine lv_iload_n hx hb yjPC_0 rfl hl0 ?_
  refine lv_if_lt (tgt := 9) hx hb yjPC_1 (by decide) (fun h => absurd h (nI_pos (by omega))) (fun _ => ?_)
  refine lv_iload_n hx hb yjPC_4 rfl hl0 ?_
  refine lv_iload_n hx hb yjPC_5 rfl hl1 ?_
  refine lv_icmp_lt (tgt := 16) hx hb yjPC_6 (by decide) (fun _ => ?_) (fun h => absurd (nI_lt hi hn) h)
  refine lv_iload_n hx hb yjPC_16 rfl hl0 ?_
  exact W.zret (ty := .int) hx hb hr rfl (fun t ht hW => ⟨rfl, ht⟩) hS.2.2 yjPC_17 hlocks
theorem zjm_CI (d i n : Nat) (hi : i < n) (hn : n < 2 ^ 31) : zjMet G l yjCI (d + 1) [.int (nI i), .int (nI n)] none := by
  refine zjof rfl (Nat.le_of_ble_eq_true rfl) ?_
  intro p e s m below meth c real hx hb hml hr hts hown hlocks hstr hl hS
  have hl0 : real[0]? = some (.val (.int (nI i))) := hl.2.2 (0, .int (nI i)) List.mem_cons_self
  have hl1 : real[1]? = some (.val (.int (nI n))) := hl.2.2 (1, .int (nI n)) (List.mem_cons_of_mem _ List.mem_cons_self)
  have key : ∀ f : Value, (f = .null ∨ ∃ q, f = .ref q) → W p l e (zrm (d + 1) 0 0) s m ([.int (nI i), .int (nI n)] : List Value).toArray below meth c s.heap [] 0 0 (MQ below (zjQ none) ([.int (nI i), .int (nI n)] : List Value).toArray s 0 0 (zA G)) (F0 m (0 + 1 + 1 + 3) real [f, .int (nI n), .int (nI i)]) := by
    intro f hf
    refine zjcallS (av := [.int (nI i), .int (nI n), f]) (rest := []) (zjm_PC d i n f hi hn hf) ⟨hx, hb, hml, hown, hts⟩ yjPC_in (by decide) zjI3 zjL1059 zjL1059s ⟨by decide, by decide, by show _ = some 3; decide +kernel⟩ hstr hS (by decide) hl.1 yjCI_5 ⟨Nat.le_refl _, by show _ ≤ 35 * (d + 1); omega⟩ ⟨Nat.le_refl _, Nat.le_refl _⟩ (fun locs1 hS1 => ?_)
    refine lv_pop hx hb yjCI_8 rfl ?_
    exact W.vret hx hb hr (fun t ht hW => ⟨rfl, ht⟩) hS1.2.2 yjCI_9 hlocks
  refine lv_iload_n hx hb yjCI_0 rfl hl0 ?_
  refine lv_iload_n hx hb yjCI_1 rfl hl1 ?_
  rcases hstr.2.2.2 with hz | ⟨q, hz⟩
  · exact va_gets hx hb hz hS hown (hts _ zjF1053) (fun _ h => h) yjCI_2 (key _ (Or.inl rfl))
  · exact va_gets hx hb hz hS hown (hts _ zjF1053) (fun _ h => h) yjCI_2 (key _ (Or.inr ⟨_, rfl⟩))
theorem zjm_LCh (d i t : Nat) (hi : i < 97) (ht : t = zgv G 0) : zjMet G l yjLCh (d + 2) [.ref t, .int (nI i)] (some (.int (zbyt i))) := by
  refine zjof rfl (Nat.le_of_ble_eq_true rfl) ?_
  intro p e s m below meth c real hx hb hml hr hts hown hlocks hstr hl hS
  have hl0 : real[0]? = some (.val (.ref t)) := hl.2.2 (0, .ref t) List.mem_cons_self
  have hl1 : real[1]? = some (.val (.int (nI i))) := hl.2.2 (1, .int (nI i)) (List.mem_cons_of_mem _ List.mem_cons_self)
  obtain ⟨scr, h1, h2, h3, h4, h5, h6, h7⟩ := (hstr.1.1 0 (by decide)).2.2.2
  have hlen97 : ([97] : List Nat).getD 0 0 = 97 := rfl
  rw [hlen97] at h4 h5 h6
  rw [← ht] at h1
  refine lv_iload_n hx hb yjLCh_0 rfl hl1 ?_
  refine lv_aload_n hx hb yjLCh_1 rfl hl0 ?_
  refine W.alen (n := nI 97) hx hb h1 h2 h5 rfl rfl yjLCh_2 ?_
  refine zjcallS (av := [.int (nI i), .int (nI 97)]) (rest := []) (zjm_CI d i 97 hi (by decide)) ⟨hx, hb, hml, hown, hts⟩ yjCI_in (by decide) zjI1 zjL9 zjL9s ⟨by decide, by decide, by show _ = some 2; decide +kernel⟩ hstr hS (by decide) hl.1 yjLCh_3 ⟨Nat.le_refl _, by show _ ≤ 35 * (d + 2); omega⟩ ⟨Nat.le_refl _, Nat.le_refl _⟩ (fun locs1 hS1 => ?_)
  refine lv_aload_n hx hb yjLCh_6 rfl hl0 ?_
  refine lv_iload_n hx hb yjLCh_7 rfl hl1 ?_
  refine W.bald (v := .int (zbyt i)) hx hb h1 h2 h3 (by rintro (hz | hz); exact absurd hz (nI_pos (by omega)); rw [nI_clamp (by omega)] at hz; omega) (by rw [nI_clamp (by omega)]; exact h6 i hi) rfl rfl yjLCh_8 ?_
  refine lv_sipush (v := 255) hx hb yjLCh_9 rfl ?_
  refine lv_iand hx hb yjLCh_12 ?_
  have hz : ((zbyt i &&& 255).toUInt32 % 65536).toInt32 = zbyt i ∧ narrow .char (.int (zbyt i)) = .int (zbyt i) := by
    have := zbyt_ok i hi
    exact this
  refine lv_i2c hx hb yjLCh_13 hz.1 ?_
  exact W.zret (ty := .char) hx hb hr hz.2 (fun t ht hW => ⟨rfl, ht⟩) hS1.2.2 yjLCh_14 hlocks
theorem zjm_Ch (d i : Nat) (hi : i < 97) : zjMet G l yjCh (d + 3) [.ref (zgs G), .int (nI i)] (some (.int (zbyt i))) := by
  refine zjof rfl (Nat.le_of_ble_eq_true rfl) ?_
  intro p e s m below meth c real hx hb hml hr hts hown hlocks hstr hl hS
  have hl0 : real[0]? = some (.val (.ref (zgs G))) := hl.2.2 (0, .ref (zgs G)) List.mem_cons_self
  have hl1 : real[1]? = some (.val (.int (nI i))) := hl.2.2 (1, .int (nI i)) (List.mem_cons_of_mem _ List.mem_cons_self)
  have hO := (hstr.1.1 0 (by decide)).2.2.1
  refine lv_aload_n hx hb yjCh_0 rfl hl0 ?_
  refine zjcallV (av := []) (rest := []) (zjm_Lat (d + 2)) ⟨hx, hb, hml, hown, hts⟩ yjLat_in (by decide) zjI1 zjL492 zjL492i zjL492s (vk_recv (i := 0) hstr.1 (by decide) hS) ⟨by decide, by decide, by show _ = some 0; decide +kernel⟩ hstr hS (by decide) hl.1 yjCh_1 ⟨Nat.le_refl _, by show _ ≤ 35 * (d + 3); omega⟩ ⟨Nat.le_refl _, Nat.le_refl _⟩ (fun locs1 hS1 => ?_)
  refine lv_if_eq (tgt := 16) hx hb yjCh_4 (by decide) (fun h => absurd h (by decide)) (fun _ => ?_)
  refine lv_aload_n hx hb yjCh_7 rfl hl0 ?_
  refine vk_getf hx hb hO hS1 hown (hts _ zjF9) (fun _ h => h) yjCh_8 ?_
  refine lv_iload_n hx hb yjCh_11 rfl hl1 ?_
  refine zjcallS (av := [.ref (zgv G 0), .int (nI i)]) (rest := []) (zjm_LCh d i (zgv G 0) hi rfl) ⟨hx, hb, hml, hown, hts⟩ yjLCh_in (by decide) zjI2 zjL495 zjL495s ⟨by decide, by decide, by show _ = some 2; decide +kernel⟩ hstr hS1 (by decide) hl.1 yjCh_12 ⟨Nat.le_refl _, by show _ ≤ 35 * (d + 3); omega⟩ ⟨Nat.le_refl _, Nat.le_refl _⟩ (fun locs2 hS2 => ?_)
  have hz := (zbyt_ok i hi).2
  exact W.zret (ty := .char) hx hb hr hz (fun t ht hW => ⟨rfl, ht⟩) hS2.2.2 yjCh_15 hlocks
theorem zjm_Len (d : Nat) : zjMet G l yjLen (d + 1) [.ref (zgs G)] (some (.int 97)) := by
  refine zjof rfl (Nat.le_of_ble_eq_true rfl) ?_
  intro p e s m below meth c real hx hb hml hr hts hown hlocks hstr hl hS
  have hl0 : real[0]? = some (.val (.ref (zgs G))) := hl.2.2 (0, .ref (zgs G)) List.mem_cons_self
  have hO := (hstr.1.1 0 (by decide)).2.2.1
  obtain ⟨scr, h1, h2, h3, h4, h5, h6, h7⟩ := (hstr.1.1 0 (by decide)).2.2.2
  have hlen97 : ([97] : List Nat).getD 0 0 = 97 := rfl
  rw [hlen97] at h5
  refine lv_aload_n hx hb yjLen_0 rfl hl0 ?_
  refine vk_getf hx hb hO hS hown (hts _ zjF9) (fun _ h => h) yjLen_1 ?_
  refine W.alen (n := 97) hx hb h1 h2 h5 rfl rfl yjLen_4 ?_
  refine lv_aload_n hx hb yjLen_5 rfl hl0 ?_
  refine zjcallV (av := []) (rest := [.int 97]) (zjm_Cod d) ⟨hx, hb, hml, hown, hts⟩ yjCod_in (by decide) zjI1 zjL335 zjL335i zjL335s (vk_recv (i := 0) hstr.1 (by decide) hS) ⟨by decide, by decide, by show _ = some 0; decide +kernel⟩ hstr hS (by decide) hl.1 yjLen_6 ⟨Nat.le_refl _, by show _ ≤ 35 * (d + 1); omega⟩ ⟨Nat.le_refl _, Nat.le_refl _⟩ (fun locs1 hS1 => ?_)
  refine lv_ishr hx hb yjLen_9 ?_
  exact W.zret (v := 97) (ty := .int) hx hb hr rfl (fun t ht hW => ⟨rfl, ht⟩) hS1.2.2 yjLen_10 hlocks
end ZJM
end
section
theorem zj_up {G : zG} {l : Launch} {N : zPM} {d : Nat} {As : List Value} {r : Option Value} (h : zjMet G l N d (As.map (ztr G)) (r.map (ztr G))) (w : zW) : Met l N.1 (zws N) (zrm d 0 0) (zPc G As w) (zQc G r w) 0 0 (zA G) := by
  intro p e ha hc hk s m args below hf happ hP hK
  obtain ⟨n, o, h1, h2, h3, h4, h5⟩ := h p e ha hc hk s m args below hf happ ⟨hP.1, hP.2.1.2.2.1⟩ hK
  obtain ⟨_, hSt, hPw, hH, _⟩ := hP
  exact ⟨n, o, h1, h2, h3, ⟨⟨h4.1, by rw [h4.2]; exact hPw, by rw [h4.2]; exact hH⟩, by rw [h4.2]; exact Nat.le_refl _, fun q _ _ => by rw [h4.2]⟩, h5⟩
set_option maxRecDepth 100000 in
theorem zjLen_get : zpms[zjLen]? = some yjLen := rfl
set_option maxRecDepth 100000 in
theorem zjCh_get : zpms[zjCh]? = some yjCh := rfl
theorem zMet_all {G : zG} {l : Launch} : ∀ d, zMet G l d
  | 0 => fun _ _ _ _ _ h => False.elim h
  | d + 1 => zMet_succ (zMet_all d) (fun h4 N => ⟨fun hN w => by
      cases hN.symm.trans zjLen_get
      exact zj_up (As := [.ref zSTR]) (r := some (.int 97)) (zjm_Len d) w, fun hN w i hi => by
      cases hN.symm.trans zjCh_get
      obtain ⟨d', rfl⟩ : ∃ d', d = d' + 2 := ⟨d - 2, by omega⟩
      exact zj_up (As := [.ref zSTR, .int (nI i)]) (r := some (.int (zbyt i))) (zjm_Ch d' i hi) w⟩)
def R_law : String := "AdjectiveCouponsLaw"
def lw_P (b : Addr) (xs : List Int32) (args : Array Value) (s : State) : Prop := args = #[.ref b] ∧ s.IntsAt b xs ∧ xs.length ≤ 320 ∧ (Jvm.Cond.and given_1 narrow_1).before args s = true
def lw_Q (_ : Array Value) (s : State) (o : Outcome) (t : State) : Prop := o = .returned (some (.int 1)) ∧ Framed s o t [] 600000 7302250
def lw_Z (below : List Frame) (a : Array Value) (s : State) : State → Prop := fun t => ∃ o, t.status = .running ∧ Ended t below o ∧ lw_Q a s o t
/-- the law's own end, with 1 on the stack, nothing written that was there before, its room as the claim has it -/
theorem lw_ret {p : Program} {l : Launch} {e : Env} {s : State} {m : MethodId} {below : List Frame} {meth : Method} {c : Code} {b : Nat} (hx : p.tables.exec = Jvm.exec) (hb : c.code = code) (hr : meth.sig.returnType = ret) (hlocks : meth.locks = false) {pc : Nat} {H : Heap} {ls : Array Slot} (hdg : decode code pc = .ok (.ireturn, 1)) : W p l e room_1 s m #[Value.ref b] below meth c H [] 600000 7302250 (lw_Z below #[Value.ref b] s) (F0 m pc ls [.int 1]) := by
  intro T hT X
  obtain ⟨fs, hret, hrun, hended, hW, hframe⟩ := X.leave (v := some (.int 1)) (hlocks := hlocks) (fun h => by rw [hr] at h; cases h)
  have hmeth' : T.vm.method? m = some meth := X.method'
  refine ⟨T.setFrames fs, ?_, .returned (some (.int 1)), hrun, hended, rfl, ⟨_, rfl⟩, hW, hframe⟩
  jvm_step X.here [X.here.top, hx, hb, hdg, hmeth', hr, ret, narrow_b1]
  (try refine ⟨rfl, ?_⟩); (try refine ⟨rfl, ?_⟩)
  first | (intro acts; rw [hret _ acts rfl rfl rfl]) | rw [hret _ _ rfl rfl rfl]
  exact Steps.refl _
/-- what holds at the law's entry: the machine, the code, the tables' words (any of lw_tbl by 'hts w (by decide +kernel)'), the script of L ints xs at the cell b, what the Statement gives of the start (any of its parts by flat_of_before) -/
def lw_At (p : Program) (s : State) (m : MethodId) (meth : Method) (c : Code) (b L : Nat) (xs : Nat → Int32) : Prop :=
  p.tables.exec = Jvm.exec ∧ c.code = code ∧ meth.sig.returnType = ret ∧ c.maxLocals = 4 ∧ s.vm.findClass R_law = some m.cls ∧ (∀ w ∈ lw_tbl, w.before #[Value.ref b] s = true) ∧ va_X b L xs s s.heap ∧ b < s.heap.size ∧ meth.locks = false ∧ (Jvm.Cond.and given_1 narrow_1).before #[Value.ref b] s = true
-- ===== the law's start: the world is empty, the script is there =====
abbrev zlawM : zPM := (x, code, 4, ret, 11)
theorem zelems : ∀ j, j < 97 → (Cond.eq (.elem (.field (.string "AdjectiveCoupons$Text" 81) "java/lang/String" "value" "[B") (.int (Int32.ofNat j))) (.int (zbytes.getD j 0))) ∈ flatC (Jvm.Cond.and given_1 narrow_1) := by decide +kernel
theorem zstart {p : Program} {s : State} {m : MethodId} {meth : Method} {c : Code} {b L : Nat} {xs : Nat → Int32} (C0 : lw_At p s m meth c b L xs) : ∃ G : zG, zgL G = L ∧ zgx G = xs ∧ zgb G = b ∧ zgB G = s.heap.size ∧ zC G zlawM p s m #[Value.ref b] meth c := by
  obtain ⟨hx, hb, hr, hml, hown, hts, hX, hbl, hlocks, hgv⟩ := C0
  have hT : ∀ w ∈ zTB, w.before #[Value.ref b] s = true := fun w hw => hts w (List.mem_filter.mp hw).1
  have hflat := flat_of_before _ hgv
  obtain ⟨dC, dI, hKc⟩ : ∃ (dC : Nat → ClassId) (dI : Nat → Nat → Nat), ∀ (k : Nat) (q : vw_C), zcl[k]? = some q → u_Kn s q.1 q.2.1 q.2.2 (dC k) (dI k) := by
    have h : ∀ k : Nat, ∃ y : ClassId × (Nat → Nat), ∀ q : vw_C, zcl[k]? = some q → u_Kn s q.1 q.2.1 q.2.2 y.1 y.2 := by
      intro k
      cases hq : zcl[k]? with
      | none => exact ⟨(0, fun _ => 0), fun q h => by cases h⟩
      | some q =>
        obtain ⟨-, e2, -, e4, -⟩ := zcl_spec hq
        obtain ⟨cC, iS, hKn⟩ := u_known (C := q.1) (T := q.2.1) (N := q.2.2) hT e4 (hT _ e2)
        exact ⟨(cC, iS), fun q' h => by cases h; exact hKn⟩
    obtain ⟨f, hf⟩ := Classical.axiomOfChoice h
    exact ⟨fun k => (f k).1, fun k => (f k).2, hf⟩
  obtain ⟨cI, kI, pI, i1, i2, i3⟩ := Cond.arrayClass_spec (hT _ zarr_i)
  obtain ⟨cZ, kZ, pZ, z1, z2, z3⟩ := Cond.arrayClass_spec (hT _ zarr_z)
  have hA1 : (Cond.arrayOver (.object "AdjectiveCoupons$State")).before #[Value.ref b] s = true := hts _ (List.mem_of_getElem? (i := 225) (by decide +kernel))
  have hA2 : (Cond.arrayOver (.object "AdjectiveCoupons$Line")).before #[Value.ref b] s = true := hts _ (List.mem_of_getElem? (i := 286) (by decide +kernel))
  obtain ⟨pS, cS, kS, s1, -, s3, s4, s5⟩ := Cond.arrayOver_spec hA1
  obtain ⟨pN, cN, kN, n1, -, n3, n4, n5⟩ := Cond.arrayOver_spec hA2
  have hA : ∀ a : Nat, a < s.heap.size → ¬ (fun q : Nat => s.heap.size ≤ q) a := fun a h => Nat.not_le.mpr h
  obtain ⟨adK, adV, hstr, hev⟩ := vk_Sof (args := #[Value.ref b]) (s := s) (N := 1) (tm := fun _ => .string "AdjectiveCoupons$Text" 81) (len := [97]) (byt := [zbytes]) (A := fun q : Nat => s.heap.size ≤ q) (fun i hi => by rw [show i = 0 by omega]; decide)
    (fun i _ => hflat _ (by decide +kernel)) (fun i _ => hflat _ (by decide +kernel)) (fun i _ => hflat _ (by decide +kernel)) (fun i hi => by rw [show i = 0 by omega]; exact hflat _ (by decide +kernel)) (fun i hi j hj => by rw [show i = 0 by omega] at hj ⊢; exact hflat _ (zelems j hj)) (fun i j hi hj hij => absurd (by omega) hij) hA
  have hZ : va_Z "java/lang/String" "COMPACT_STRINGS" "Z" (.int 1) (fun q : Nat => s.heap.size ≤ q) s s.heap := va_Zof (args := #[Value.ref b]) (hts _ (List.mem_of_getElem? (i := 445) (by decide +kernel))) (hT _ zjI1) (va_eqt (hflat _ (by decide +kernel))) hA
  have hZq : va_Zq "jdk/internal/util/Preconditions" "SIOOBE_FORMATTER" "Ljava/util/function/BiFunction;" (fun q : Nat => s.heap.size ≤ q) s s.heap := va_Zqof (args := #[Value.ref b]) (hts _ (List.mem_of_getElem? (i := 461) (by decide +kernel))) (hT _ zjI3) (hflat _ (by decide +kernel)) hA
  have hR : vk_R "AdjectiveCoupons$Text" 81 ztx (adK 0) s := vk_R.of (hts _ (List.mem_of_getElem? (i := 435) (by decide +kernel))) (hev 0 (by decide))
  have hS1 : vk_S 1 [97] [zbytes] (fun _ => adK 0) adV (fun q : Nat => s.heap.size ≤ q) s s.heap := ⟨fun i hi => by have := hstr.1 i hi; rw [show i = 0 by omega] at this ⊢; exact this, fun i j hi hj _ => by omega⟩
  refine ⟨(b, s.heap.size, adK 0, (dC, dI), cI, cZ, cS, cN, L, xs, adV), rfl, rfl, rfl, rfl, hx, hb, hml, hT, hown, fun h => absurd h (by decide), rfl, ⟨hX, hbl, ⟨hS1, hR, hZ, hZq⟩, ⟨hKc, fun k q h => ?_⟩, fun w hw => ?_, va_AO.of hA1, va_AO.of hA2⟩, Nat.le_refl _⟩
  · match k, h with
    | 0, h => cases h; exact ⟨fun n z => ⟨fun k h => (by cases h), kI, i2, pI, i3⟩, i1⟩
    | 1, h => cases h; exact ⟨fun n z => ⟨fun k h => (by cases h), kZ, z2, pZ, z3⟩, z1⟩
    | 2, h => cases h; exact ⟨fun n z => ⟨fun k h => (by cases h), kS, s3, pS, s4⟩, kS, pS, s3, s4, s1, s5⟩
    | 3, h => cases h; exact ⟨fun n z => ⟨fun k h => (by cases h), kN, n3, pN, n4⟩, kN, pN, n3, n4, n1, n5⟩
    | k + 4, h => simp [ztys] at h
  · have h1 := (List.mem_filter.mp hw)
    have h2 := hts w h1.1
    cases w <;> first | exact va_Nw.of rfl h2 | (simp [znest] at h1)
/-- the law, out of a run of the small machine -/
theorem zlaw {p : Program} {e : Env} {s : State} {m : MethodId} {below : List Frame} {meth : Method} {c : Code} (l : Launch) {b L : Nat} {xs : Nat → Int32} (C0 : lw_At p s m meth c b L xs) {n : Nat} {w' : zW} (hrun : zRun L xs (zEv L xs 10) zlawM n 0 (zini 4 [.ref zSCR]) [] [] (some (.int 1)) w') (hc : w'.length ≤ 600000) (hz : zsz w' ≤ 7302250) : W p l e room_1 s m #[Value.ref b] below meth c s.heap [] 0 0 (lw_Z below #[Value.ref b] s) (entryFrame m ([Value.ref b] : List Value).toArray 4) := by
  obtain ⟨G, rfl, rfl, hGb, hGB, C⟩ := zstart C0
  obtain ⟨hx, hb, hr, hml, hown, hts, hX, hbl, hlocks, hgv⟩ := id C0
  have hl0 := lv_entry ([.ref b]) (n := 4) (Nat.le_of_ble_eq_true rfl)
  rw [lg_entry_eq]
  have hl : zls G 4 (zini 4 [.ref zSCR]) ((lg_sl ([.ref b]) ++ List.replicate (4 - (lg_sl ([.ref b])).length) Slot.unset).toArray) := by
    refine zini_ls (by decide) ?_
    have e1 : ([Value.ref zSCR].map (ztr G)) = [Value.ref b] := by
      show [Value.ref (zgb G)] = _
      rw [hGb]
    rw [e1]
    exact hl0
  have key := zrun_sound (l := l) (R := room_1) (e := e) (below := below) (Q := lw_Z below #[Value.ref b] s) (n0 := 0) (s0 := 0) (d := 10) (zMet_all 10) C (by decide) (by decide) (r := some (.int 1)) (w' := w')
    (fun H2 locs2 pc2 real2 x hP2 hS2 hH2 hr2 hret hdg => ?_) (fun H2 locs2 pc2 real2 v nm hP2 hS2 hH2 hr2 hv hret hdg => ?_) (fun H2 locs2 pc2 real2 hP2 hS2 hH2 hr2 hret hdg => ?_) (by show _ ≤ 600000; omega) (by show _ ≤ 7302250; omega) n 0 _ [] [] hrun (Nat.le_refl _) (Nat.le_refl _) (Nat.zero_le _) s.heap [] _ (fun k q h => by simp [ztoW] at h) va_S.rf (by rw [hGB]; rfl) hl
  · exact key
  · cases hr2
    refine va_forget (fun q hq => by have := hS2.2.2 q hq; rw [← hGB]; exact this) ?_
    refine W.widen (k := 600000) (n := 7302250) (by omega) (by omega) ?_
    exact lw_ret hx hb hr hlocks hdg
  · cases hr2
    simp [zrv] at hv
  · cases hr2
end
section
-- ===== the world behind the constructors: which cells are there, what refers to what; the numbers in them are a store =====
abbrev zS : Type := Nat → Nat → Int32
def zshape : List (Nat × List (Option Nat)) := [
  (0, [some 1, some 4, some 19, some 34, some 47, some 180, some 183, some 186, some 213]),
  (1, [some 2, none, none, none, none]),
  (2, [some 3]),
  (20, List.replicate 160 none),
  (3, [none, none, none, none, none, some 5, some 7, some 9, some 11, some 13, some 15, some 17]),
  (2, [some 6]),
  (20, List.replicate 10 none),
  (2, [some 8]),
  (20, List.replicate 10 none),
  (2, [some 10]),
  (20, List.replicate 4 none),
  (2, [some 12]),
  (20, List.replicate 4 none),
  (2, [some 14]),
  (20, List.replicate 6 none),
  (2, [some 16]),
  (20, List.replicate 6 none),
  (2, [some 18]),
  (20, List.replicate 6 none),
  (3, [none, none, none, none, none, some 20, some 22, some 24, some 26, some 28, some 30, some 32]),
  (2, [some 21]),
  (20, List.replicate 10 none),
  (2, [some 23]),
  (20, List.replicate 10 none),
  (2, [some 25]),
  (20, List.replicate 4 none),
  (2, [some 27]),
  (20, List.replicate 4 none),
  (2, [some 29]),
  (20, List.replicate 6 none),
  (2, [some 31]),
  (20, List.replicate 6 none),
  (2, [some 33]),
  (20, List.replicate 6 none),
  (4, [none, some 35, some 37, some 39, some 41, some 43, some 45]),
  (2, [some 36]),
  (20, List.replicate 4 none),
  (2, [some 38]),
  (20, List.replicate 4 none),
  (2, [some 40]),
  (20, List.replicate 4 none),
  (2, [some 42]),
  (20, List.replicate 4 none),
  (2, [some 44]),
  (20, List.replicate 40 none),
  (2, [some 46]),
  (20, List.replicate 16 none),
  (5, [some 48, some 49, none, none, none]),
  (22, [some 50, some 63, some 76, some 89, some 102, some 115, some 128, some 141]),
  (22, [some 154, some 167]),
  (4, [none, some 51, some 53, some 55, some 57, some 59, some 61]),
  (2, [some 52]),
  (20, List.replicate 4 none),
  (2, [some 54]),
  (20, List.replicate 4 none),
  (2, [some 56]),
  (20, List.replicate 4 none),
  (2, [some 58]),
  (20, List.replicate 4 none),
  (2, [some 60]),
  (20, List.replicate 40 none),
  (2, [some 62]),
  (20, List.replicate 16 none),
  (4, [none, some 64, some 66, some 68, some 70, some 72, some 74]),
  (2, [some 65]),
  (20, List.replicate 4 none),
  (2, [some 67]),
  (20, List.replicate 4 none),
  (2, [some 69]),
  (20, List.replicate 4 none),
  (2, [some 71]),
  (20, List.replicate 4 none),
  (2, [some 73]),
  (20, List.replicate 40 none),
  (2, [some 75]),
  (20, List.replicate 16 none),
  (4, [none, some 77, some 79, some 81, some 83, some 85, some 87]),
  (2, [some 78]),
  (20, List.replicate 4 none),
  (2, [some 80]),
  (20, List.replicate 4 none),
  (2, [some 82]),
  (20, List.replicate 4 none),
  (2, [some 84]),
  (20, List.replicate 4 none),
  (2, [some 86]),
  (20, List.replicate 40 none),
  (2, [some 88]),
  (20, List.replicate 16 none),
  (4, [none, some 90, some 92, some 94, some 96, some 98, some 100]),
  (2, [some 91]),
  (20, List.replicate 4 none),
  (2, [some 93]),
  (20, List.replicate 4 none),
  (2, [some 95]),
  (20, List.replicate 4 none),
  (2, [some 97]),
  (20, List.replicate 4 none),
  (2, [some 99]),
  (20, List.replicate 40 none),
  (2, [some 101]),
  (20, List.replicate 16 none),
  (4, [none, some 103, some 105, some 107, some 109, some 111, some 113]),
  (2, [some 104]),
  (20, List.replicate 4 none),
  (2, [some 106]),
  (20, List.replicate 4 none),
  (2, [some 108]),
  (20, List.replicate 4 none),
  (2, [some 110]),
  (20, List.replicate 4 none),
  (2, [some 112]),
  (20, List.replicate 40 none),
  (2, [some 114]),
  (20, List.replicate 16 none),
  (4, [none, some 116, some 118, some 120, some 122, some 124, some 126]),
  (2, [some 117]),
  (20, List.replicate 4 none),
  (2, [some 119]),
  (20, List.replicate 4 none),
  (2, [some 121]),
  (20, List.replicate 4 none),
  (2, [some 123]),
  (20, List.replicate 4 none),
  (2, [some 125]),
  (20, List.replicate 40 none),
  (2, [some 127]),
  (20, List.replicate 16 none),
  (4, [none, some 129, some 131, some 133, some 135, some 137, some 139]),
  (2, [some 130]),
  (20, List.replicate 4 none),
  (2, [some 132]),
  (20, List.replicate 4 none),
  (2, [some 134]),
  (20, List.replicate 4 none),
  (2, [some 136]),
  (20, List.replicate 4 none),
  (2, [some 138]),
  (20, List.replicate 40 none),
  (2, [some 140]),
  (20, List.replicate 16 none),
  (4, [none, some 142, some 144, some 146, some 148, some 150, some 152]),
  (2, [some 143]),
  (20, List.replicate 4 none),
  (2, [some 145]),
  (20, List.replicate 4 none),
  (2, [some 147]),
  (20, List.replicate 4 none),
  (2, [some 149]),
  (20, List.replicate 4 none),
  (2, [some 151]),
  (20, List.replicate 40 none),
  (2, [some 153]),
  (20, List.replicate 16 none),
  (4, [none, some 155, some 157, some 159, some 161, some 163, some 165]),
  (2, [some 156]),
  (20, List.replicate 4 none),
  (2, [some 158]),
  (20, List.replicate 4 none),
  (2, [some 160]),
  (20, List.replicate 4 none),
  (2, [some 162]),
  (20, List.replicate 4 none),
  (2, [some 164]),
  (20, List.replicate 40 none),
  (2, [some 166]),
  (20, List.replicate 16 none),
  (4, [none, some 168, some 170, some 172, some 174, some 176, some 178]),
  (2, [some 169]),
  (20, List.replicate 4 none),
  (2, [some 171]),
  (20, List.replicate 4 none),
  (2, [some 173]),
  (20, List.replicate 4 none),
  (2, [some 175]),
  (20, List.replicate 4 none),
  (2, [some 177]),
  (20, List.replicate 40 none),
  (2, [some 179]),
  (20, List.replicate 16 none),
  (6, [some 181, none]),
  (2, [some 182]),
  (20, List.replicate 8 none),
  (7, [some 184, none]),
  (2, [some 185]),
  (20, List.replicate 10 none),
  (8, [some 187, some 188, some 191, some 193, none, none, none]),
  (23, [some 195, some 198, some 201, some 204, some 207, some 210]),
  (6, [some 189, none]),
  (2, [some 190]),
  (20, List.replicate 8 none),
  (2, [some 192]),
  (20, List.replicate 6 none),
  (2, [some 194]),
  (20, List.replicate 6 none),
  (6, [some 196, none]),
  (2, [some 197]),
  (20, List.replicate 8 none),
  (6, [some 199, none]),
  (2, [some 200]),
  (20, List.replicate 8 none),
  (6, [some 202, none]),
  (2, [some 203]),
  (20, List.replicate 8 none),
  (6, [some 205, none]),
  (2, [some 206]),
  (20, List.replicate 8 none),
  (6, [some 208, none]),
  (2, [some 209]),
  (20, List.replicate 8 none),
  (6, [some 211, none]),
  (2, [some 212]),
  (20, List.replicate 8 none),
  (9, [some 214, some 217, some 220, none, none, none, none]),
  (6, [some 215, none]),
  (2, [some 216]),
  (20, List.replicate 8 none),
  (6, [some 218, none]),
  (2, [some 219]),
  (20, List.replicate 8 none),
  (2, [some 221]),
  (20, List.replicate 16 none),
  (10, [some 223, none, some 224, some 225, none, some 226, none, some 227, some 228, none, some 229, none, some 230, some 231, none, none, none, some 232, none, some 233, some 234, none, none, none, none, none, none, none, some 235, none, some 236, some 237, none, none, some 238]),
  (20, List.replicate 803 none),
  (21, List.replicate 2 none),
  (20, List.replicate 160 none),
  (20, List.replicate 56 none),
  (20, List.replicate 10 none),
  (20, List.replicate 10 none),
  (20, List.replicate 18 none),
  (20, List.replicate 4 none),
  (20, List.replicate 4 none),
  (20, List.replicate 8 none),
  (20, List.replicate 48 none),
  (20, List.replicate 6 none),
  (20, List.replicate 8 none),
  (20, List.replicate 8 none),
  (20, List.replicate 8 none),
  (20, List.replicate 16 none)]
def zsh (c : Nat) : Option (Nat × List (Option Nat)) := zshape[c]?
def zlen (c : Nat) : Nat := match zsh c with
  | some q => q.2.length
  | none => 0
/-- what a row of references holds -/
def zel (c i : Nat) : Nat := match zsh c with
  | some q => ((q.2[i]?).join).getD 0
  | none => 0
def zval (g : zS) (c j : Nat) (o : Option Nat) : Value := match o with
  | some r => .ref r
  | none => .int (g c j)
def zsl (g : zS) (c : Nat) (sl : List (Option Nat)) : List Value := sl.mapIdx (fun j o => zval g c j o)
def wd (g : zS) : zW := zshape.mapIdx (fun c sh => (sh.1, zsl g c sh.2))
def zup (g : zS) (c k : Nat) (v : Int32) : zS := fun c2 k2 => if c2 = c then (if k2 = k then v else g c2 k2) else g c2 k2
theorem wd_get {g : zS} {c t : Nat} {sl : List (Option Nat)} (h : zsh c = some (t, sl)) : (wd g)[c]? = some (t, zsl g c sl) := by
  unfold wd
  rw [List.getElem?_mapIdx]
  show (zsh c).map _ = _
  rw [h]
  rfl
theorem zsl_get {g : zS} {c k : Nat} {sl : List (Option Nat)} {o : Option Nat} (h : sl[k]? = some o) : (zsl g c sl)[k]? = some (zval g c k o) := by
  unfold zsl
  rw [List.getElem?_mapIdx, h]
  rfl
theorem zsl_len {g : zS} {c : Nat} {sl : List (Option Nat)} : (zsl g c sl).length = sl.length := by
  unfold zsl
  rw [List.length_mapIdx]
theorem zsl_set {g : zS} {c k : Nat} {sl : List (Option Nat)} (h : sl[k]? = some none) (v : Int32) : (zsl g c sl).set k (.int v) = zsl (zup g c k v) c sl := by
  apply List.ext_getElem?
  intro i
  unfold zsl
  rw [List.getElem?_set, List.getElem?_mapIdx, List.getElem?_mapIdx, List.length_mapIdx]
  by_cases hk : k = i
  · subst hk
    rw [if_pos rfl, if_pos (List.getElem?_eq_some_iff.mp h).1, h]
    show some (Value.int v) = some (Value.int (zup g c k v c k))
    unfold zup
    rw [if_pos rfl, if_pos rfl]
  · rw [if_neg hk]
    cases hi : sl[i]? with
    | none => rfl
    | some o =>
      cases o with
      | some r => rfl
      | none =>
        show some (Value.int (g c i)) = some (Value.int (zup g c k v c i))
        unfold zup
        rw [if_pos rfl, if_neg (Ne.symm hk)]
theorem zsl_other {g : zS} {c c2 k : Nat} {sl : List (Option Nat)} (h : c2 ≠ c) (v : Int32) : zsl (zup g c k v) c2 sl = zsl g c2 sl := by
  apply List.ext_getElem?
  intro i
  unfold zsl
  rw [List.getElem?_mapIdx, List.getElem?_mapIdx]
  cases hi : sl[i]? with
  | none => rfl
  | some o =>
    cases o with
    | some r => rfl
    | none =>
      show some (Value.int (zup g c k v c2 i)) = some (Value.int (g c2 i))
      unfold zup
      rw [if_neg h]
theorem wd_set {g : zS} {c t k : Nat} {sl : List (Option Nat)} (h : zsh c = some (t, sl)) (hk : sl[k]? = some none) (v : Int32) : (wd g).set c (t, (zsl g c sl).set k (.int v)) = wd (zup g c k v) := by
  rw [zsl_set hk]
  have hc : zshape[c]? = some (t, sl) := h
  apply List.ext_getElem?
  intro i
  unfold wd
  rw [List.getElem?_set, List.getElem?_mapIdx, List.getElem?_mapIdx, List.length_mapIdx]
  by_cases hi : c = i
  · subst hi
    rw [if_pos rfl, if_pos (List.getElem?_eq_some_iff.mp hc).1, hc]
    rfl
  · rw [if_neg hi]
    cases hz : zshape[i]? with
    | none => rfl
    | some q =>
      show some (q.1, zsl g i q.2) = some (q.1, zsl (zup g c k v) i q.2)
      rw [zsl_other (Ne.symm hi)]
/-- an int array, a row, and the things made of rows -/
def zArr (a : Nat) : Prop := zsh a = some (20, List.replicate (zlen a) none)
def zRow (o : Nat) : Prop := zsh o = some (2, [some (o + 1)]) ∧ zArr (o + 1)
def zLine (o : Nat) : Prop := zsh o = some (6, [some (o + 1), none]) ∧ zRow (o + 1)
def zState (o : Nat) : Prop := zsh o = some (4, [none, some (o + 1), some (o + 3), some (o + 5), some (o + 7), some (o + 9), some (o + 11)]) ∧ zRow (o + 1) ∧ zRow (o + 3) ∧ zRow (o + 5) ∧ zRow (o + 7) ∧ zRow (o + 9) ∧ zRow (o + 11)
def zTold (o : Nat) : Prop := zsh o = some (3, [none, none, none, none, none, some (o + 1), some (o + 3), some (o + 5), some (o + 7), some (o + 9), some (o + 11), some (o + 13)]) ∧ zRow (o + 1) ∧ zRow (o + 3) ∧ zRow (o + 5) ∧ zRow (o + 7) ∧ zRow (o + 9) ∧ zRow (o + 11) ∧ zRow (o + 13)
-- ===== the small machine over a store =====
def zG2 (L : Nat) (xs : Nat → Int32) (d : Nat) (M : zPM) (pc : Nat) (ls : zL) (st : List Value) (g : zS) (r : Option Value) (g' : zS) : Prop := ∃ n, zRun L xs (zEv L xs d) M n pc ls st (wd g) r (wd g')
abbrev zE2 (L : Nat) (xs : Nat → Int32) (d j : Nat) (As : List Value) (g : zS) (r : Option Value) (g' : zS) : Prop := zEv L xs d j As (wd g) r (wd g')
/-- an index within -/
abbrev zin (i : Int32) (n : Nat) : Prop := 0 ≤ i.toInt ∧ i.toInt < n
theorem zin_vp {i : Int32} {n : Nat} (h : zin i n) : vp_in i n := vp_in_iff.mpr h
theorem zin_lt {i : Int32} {n : Nat} (h : zin i n) : i.toNatClampNeg < n := by
  have h2 := zin_vp h
  exact Nat.not_le.mp fun q => h2 (Or.inr q)
/-- fewer locals known -/
def zle : zL → zL → Prop
  | [], [] => True
  | some v :: a, b :: c => b = some v ∧ zle a c
  | none :: a, b :: c => zo b = true ∧ zle a c
  | _, _ => False
end
section
-- ===== a run doesn't mind more locals =====
def zlp (a b : zL) : Prop := ∀ i : Nat, (a[i]? = none → b[i]? = none) ∧ (∀ v, a[i]? = some (some v) → b[i]? = some (some v)) ∧ (a[i]? = some none → ∃ o, b[i]? = some o ∧ zo o = true)
theorem zle_lp : ∀ {a b : zL}, zle a b → zlp a b
  | [], [], _ => fun i => ⟨fun _ => by simp, fun v h => by simp at h, fun h => by simp at h⟩
  | some v :: a, b :: c, h => fun i => by
    obtain ⟨rfl, h2⟩ := h
    cases i with
    | zero => exact ⟨fun h => by simp at h, fun u h => by simpa using h, fun h => by simp at h⟩
    | succ i => simpa using zle_lp h2 i
  | none :: a, b :: c, h => fun i => by
    obtain ⟨h1, h2⟩ := h
    cases i with
    | zero => exact ⟨fun h => by simp at h, fun u h => by simp at h, fun _ => ⟨b, by simp, h1⟩⟩
    | succ i => simpa using zle_lp h2 i
  | [], _ :: _, h => False.elim h
  | some _ :: _, [], h => False.elim h
  | none :: _, [], h => False.elim h
theorem zlp_len {a b : zL} (h : zlp a b) : a.length = b.length := by
  rcases Nat.lt_trichotomy a.length b.length with q | q | q
  · have h1 := (h a.length).1 (List.getElem?_eq_none (Nat.le_refl _))
    rw [List.getElem?_eq_getElem q] at h1
    cases h1
  · exact q
  · have h1 := List.getElem?_eq_getElem q
    cases hc : a[b.length] with
    | none =>
      rw [hc] at h1
      obtain ⟨o, h2, -⟩ := (h b.length).2.2 h1
      rw [List.getElem?_eq_none (Nat.le_refl _)] at h2
      cases h2
    | some v =>
      rw [hc] at h1
      have h2 := (h b.length).2.1 v h1
      rw [List.getElem?_eq_none (Nat.le_refl _)] at h2
      cases h2
theorem zlp_nl {a b : zL} (h : zlp a b) (ha : znl a = true) : znl b = true := by
  refine List.all_eq_true.mpr fun o ho => ?_
  obtain ⟨i, hi⟩ := List.getElem?_of_mem ho
  cases hc : a[i]? with
  | none =>
    rw [(h i).1 hc] at hi
    cases hi
  | some x =>
    cases x with
    | none =>
      obtain ⟨o2, h2, h3⟩ := (h i).2.2 hc
      cases hi.symm.trans h2
      exact h3
    | some v =>
      cases hi.symm.trans ((h i).2.1 v hc)
      exact List.all_eq_true.mp ha _ (List.mem_of_getElem? hc)
theorem zlp_set {a b : zL} (h : zlp a b) (k : Nat) (v : Value) : zlp (a.set k (some v)) (b.set k (some v)) := by
  have hl := zlp_len h
  intro i
  rw [List.getElem?_set, List.getElem?_set]
  by_cases hk : k = i
  · subst hk
    rw [if_pos rfl, if_pos rfl]
    by_cases hlt : k < a.length
    · rw [if_pos hlt, if_pos (by omega)]
      exact ⟨fun h => (by cases h), fun u h => h, fun h => (by cases h)⟩
    · rw [if_neg hlt, if_neg (by omega)]
      exact ⟨fun _ => rfl, fun u h => (by cases h), fun h => (by cases h)⟩
  · rw [if_neg hk, if_neg hk]
    exact h i
theorem zweak {L : Nat} {xs : Nat → Int32} {M : zPM} {i : Instr} {len pc : Nat} {a b : zL} {st : List Value} {w : zW} {pc2 : Nat} {a2 : zL} {st2 : List Value} {w2 : zW} (hp : zlp a b) (h : zStep L xs M i len pc a st w (.inl (pc2, a2, st2, w2))) : ∃ b2, zlp a2 b2 ∧ zStep L xs M i len pc b st w (.inl (pc2, b2, st2, w2)) := by
  have hl := zlp_len hp
  cases i
  case aconst_null =>
    obtain ⟨h1, h⟩ := h; obtain ⟨rfl, rfl, rfl, rfl⟩ := zgo_inj h; exact ⟨b, hp, h1, rfl⟩
  case aload_n k => obtain ⟨h1, v, h2, h3, h⟩ := h; obtain ⟨rfl, rfl, rfl, rfl⟩ := zgo_inj h; exact ⟨b, hp, h1, v, (hp _).2.1 _ h2, h3, rfl⟩
  case aload k => obtain ⟨h1, v, h2, h3, h⟩ := h; obtain ⟨rfl, rfl, rfl, rfl⟩ := zgo_inj h; exact ⟨b, hp, h1, v, (hp _).2.1 _ h2, h3, rfl⟩
  case iload_n k => obtain ⟨h1, v, h2, h⟩ := h; obtain ⟨rfl, rfl, rfl, rfl⟩ := zgo_inj h; exact ⟨b, hp, h1, v, (hp _).2.1 _ h2, rfl⟩
  case iload k => obtain ⟨h1, v, h2, h⟩ := h; obtain ⟨rfl, rfl, rfl, rfl⟩ := zgo_inj h; exact ⟨b, hp, h1, v, (hp _).2.1 _ h2, rfl⟩
  case lload_n k => obtain ⟨h1, v, h2, h⟩ := h; obtain ⟨rfl, rfl, rfl, rfl⟩ := zgo_inj h; exact ⟨b, hp, h1, v, (hp _).2.1 _ h2, rfl⟩
  case lload k => obtain ⟨h1, v, h2, h⟩ := h; obtain ⟨rfl, rfl, rfl, rfl⟩ := zgo_inj h; exact ⟨b, hp, h1, v, (hp _).2.1 _ h2, rfl⟩
  case iconst n => obtain ⟨h1, h⟩ := h; obtain ⟨rfl, rfl, rfl, rfl⟩ := zgo_inj h; exact ⟨b, hp, h1, rfl⟩
  case bipush n => obtain ⟨h1, h⟩ := h; obtain ⟨rfl, rfl, rfl, rfl⟩ := zgo_inj h; exact ⟨b, hp, h1, rfl⟩
  case sipush n => obtain ⟨h1, h⟩ := h; obtain ⟨rfl, rfl, rfl, rfl⟩ := zgo_inj h; exact ⟨b, hp, h1, rfl⟩
  case lconst n => obtain ⟨h1, h⟩ := h; obtain ⟨rfl, rfl, rfl, rfl⟩ := zgo_inj h; exact ⟨b, hp, h1, rfl⟩
  case ldc ix =>
    obtain ⟨h1, ⟨v, h2, h⟩ | ⟨h2, h3, h⟩⟩ := h
    · obtain ⟨rfl, rfl, rfl, rfl⟩ := zgo_inj h; exact ⟨b, hp, h1, Or.inl ⟨v, h2, rfl⟩⟩
    · obtain ⟨rfl, rfl, rfl, rfl⟩ := zgo_inj h; exact ⟨b, hp, h1, Or.inr ⟨h2, h3, rfl⟩⟩
  case ldc_w ix => obtain ⟨h1, v, h2, h⟩ := h; obtain ⟨rfl, rfl, rfl, rfl⟩ := zgo_inj h; exact ⟨b, hp, h1, v, h2, rfl⟩
  case ldc2_w ix => obtain ⟨h1, v, h2, h⟩ := h; obtain ⟨rfl, rfl, rfl, rfl⟩ := zgo_inj h; exact ⟨b, hp, h1, v, h2, rfl⟩
  case istore_n k => obtain ⟨h1, x, rest, h2, h3, h4, h⟩ := h; obtain ⟨rfl, rfl, rfl, rfl⟩ := zgo_inj h; exact ⟨_, zlp_set hp _ _, h1, x, _, h2, zlp_nl hp h3, by omega, rfl⟩
  case istore k => obtain ⟨h1, x, rest, h2, h3, h4, h⟩ := h; obtain ⟨rfl, rfl, rfl, rfl⟩ := zgo_inj h; exact ⟨_, zlp_set hp _ _, h1, x, _, h2, zlp_nl hp h3, by omega, rfl⟩
  case astore_n k => obtain ⟨h1, x, rest, h2, h0, h3, h4, h⟩ := h; obtain ⟨rfl, rfl, rfl, rfl⟩ := zgo_inj h; exact ⟨_, zlp_set hp _ _, h1, x, _, h2, h0, zlp_nl hp h3, by omega, rfl⟩
  case astore k => obtain ⟨h1, x, rest, h2, h0, h3, h4, h⟩ := h; obtain ⟨rfl, rfl, rfl, rfl⟩ := zgo_inj h; exact ⟨_, zlp_set hp _ _, h1, x, _, h2, h0, zlp_nl hp h3, by omega, rfl⟩
  case iinc k n => obtain ⟨h1, x, h2, h3, h⟩ := h; obtain ⟨rfl, rfl, rfl, rfl⟩ := zgo_inj h; exact ⟨_, zlp_set hp _ _, h1, x, (hp _).2.1 _ h2, zlp_nl hp h3, rfl⟩
  case iadd => obtain ⟨h1, x, y, rest, h2, h⟩ := h; obtain ⟨rfl, rfl, rfl, rfl⟩ := zgo_inj h; exact ⟨b, hp, h1, x, y, rest, h2, rfl⟩
  case isub => obtain ⟨h1, x, y, rest, h2, h⟩ := h; obtain ⟨rfl, rfl, rfl, rfl⟩ := zgo_inj h; exact ⟨b, hp, h1, x, y, rest, h2, rfl⟩
  case imul => obtain ⟨h1, x, y, rest, h2, h⟩ := h; obtain ⟨rfl, rfl, rfl, rfl⟩ := zgo_inj h; exact ⟨b, hp, h1, x, y, rest, h2, rfl⟩
  case idiv => obtain ⟨h1, x, y, rest, h2, h3, h⟩ := h; obtain ⟨rfl, rfl, rfl, rfl⟩ := zgo_inj h; exact ⟨b, hp, h1, x, y, rest, h2, h3, rfl⟩
  case irem => obtain ⟨h1, x, y, rest, h2, h3, h⟩ := h; obtain ⟨rfl, rfl, rfl, rfl⟩ := zgo_inj h; exact ⟨b, hp, h1, x, y, rest, h2, h3, rfl⟩
  case iand => obtain ⟨h1, x, y, rest, h2, h⟩ := h; obtain ⟨rfl, rfl, rfl, rfl⟩ := zgo_inj h; exact ⟨b, hp, h1, x, y, rest, h2, rfl⟩
  case ior => obtain ⟨h1, x, y, rest, h2, h⟩ := h; obtain ⟨rfl, rfl, rfl, rfl⟩ := zgo_inj h; exact ⟨b, hp, h1, x, y, rest, h2, rfl⟩
  case ixor => obtain ⟨h1, x, y, rest, h2, h⟩ := h; obtain ⟨rfl, rfl, rfl, rfl⟩ := zgo_inj h; exact ⟨b, hp, h1, x, y, rest, h2, rfl⟩
  case ishl => obtain ⟨h1, x, y, rest, h2, h⟩ := h; obtain ⟨rfl, rfl, rfl, rfl⟩ := zgo_inj h; exact ⟨b, hp, h1, x, y, rest, h2, rfl⟩
  case ishr => obtain ⟨h1, x, y, rest, h2, h⟩ := h; obtain ⟨rfl, rfl, rfl, rfl⟩ := zgo_inj h; exact ⟨b, hp, h1, x, y, rest, h2, rfl⟩
  case iushr => obtain ⟨h1, x, y, rest, h2, h⟩ := h; obtain ⟨rfl, rfl, rfl, rfl⟩ := zgo_inj h; exact ⟨b, hp, h1, x, y, rest, h2, rfl⟩
  case ineg => obtain ⟨h1, x, rest, h2, h⟩ := h; obtain ⟨rfl, rfl, rfl, rfl⟩ := zgo_inj h; exact ⟨b, hp, h1, x, rest, h2, rfl⟩
  case i2l => obtain ⟨h1, x, rest, h2, h⟩ := h; obtain ⟨rfl, rfl, rfl, rfl⟩ := zgo_inj h; exact ⟨b, hp, h1, x, rest, h2, rfl⟩
  case lcmp => obtain ⟨h1, x, y, rest, h2, h⟩ := h; obtain ⟨rfl, rfl, rfl, rfl⟩ := zgo_inj h; exact ⟨b, hp, h1, x, y, rest, h2, rfl⟩
  case dup => obtain ⟨h1, v, rest, h2, h3, h⟩ := h; obtain ⟨rfl, rfl, rfl, rfl⟩ := zgo_inj h; exact ⟨b, hp, h1, v, rest, h2, h3, rfl⟩
  case dup2 => obtain ⟨h1, v, u, rest, h2, h3, h4, h⟩ := h; obtain ⟨rfl, rfl, rfl, rfl⟩ := zgo_inj h; exact ⟨b, hp, h1, v, u, rest, h2, h3, h4, rfl⟩
  case pop => obtain ⟨h1, v, rest, h2, h3, h⟩ := h; obtain ⟨rfl, rfl, rfl, rfl⟩ := zgo_inj h; exact ⟨b, hp, h1, v, _, h2, h3, rfl⟩
  case ifCond cd off =>
    obtain ⟨h1, x, rest, tgt, h2, h3, ⟨h4, h⟩ | ⟨h4, h⟩⟩ := h
    · obtain ⟨rfl, rfl, rfl, rfl⟩ := zgo_inj h; exact ⟨b, hp, h1, x, _, _, h2, h3, Or.inl ⟨h4, rfl⟩⟩
    · obtain ⟨rfl, rfl, rfl, rfl⟩ := zgo_inj h; exact ⟨b, hp, h1, x, _, _, h2, h3, Or.inr ⟨h4, rfl⟩⟩
  case if_icmp cd off =>
    obtain ⟨h1, x, y, rest, tgt, h2, h3, ⟨h4, h⟩ | ⟨h4, h⟩⟩ := h
    · obtain ⟨rfl, rfl, rfl, rfl⟩ := zgo_inj h; exact ⟨b, hp, h1, x, y, _, _, h2, h3, Or.inl ⟨h4, rfl⟩⟩
    · obtain ⟨rfl, rfl, rfl, rfl⟩ := zgo_inj h; exact ⟨b, hp, h1, x, y, _, _, h2, h3, Or.inr ⟨h4, rfl⟩⟩
  case ifnull off =>
    obtain ⟨h1, ⟨rest, tgt, h2, h3, h⟩ | ⟨q, rest, h2, h⟩⟩ := h
    · obtain ⟨rfl, rfl, rfl, rfl⟩ := zgo_inj h; exact ⟨b, hp, h1, Or.inl ⟨_, _, h2, h3, rfl⟩⟩
    · obtain ⟨rfl, rfl, rfl, rfl⟩ := zgo_inj h; exact ⟨b, hp, h1, Or.inr ⟨q, _, h2, rfl⟩⟩
  case ifnonnull off =>
    obtain ⟨h1, ⟨q, rest, tgt, h2, h3, h⟩ | ⟨rest, h2, h⟩⟩ := h
    · obtain ⟨rfl, rfl, rfl, rfl⟩ := zgo_inj h; exact ⟨b, hp, h1, Or.inl ⟨q, _, _, h2, h3, rfl⟩⟩
    · obtain ⟨rfl, rfl, rfl, rfl⟩ := zgo_inj h; exact ⟨b, hp, h1, Or.inr ⟨_, h2, rfl⟩⟩
  case goto off => obtain ⟨h1, tgt, h2, h⟩ := h; obtain ⟨rfl, rfl, rfl, rfl⟩ := zgo_inj h; exact ⟨b, hp, h1, _, h2, rfl⟩
  case tableswitch d lo hi offs => obtain ⟨x, rest, tgt, h2, h3, h⟩ := h; obtain ⟨rfl, rfl, rfl, rfl⟩ := zgo_inj h; exact ⟨b, hp, x, _, _, h2, h3, rfl⟩
  case getfield ix => obtain ⟨h1, o, rest, ci, k, fs, v, h2, h3, h4, h5, h⟩ := h; obtain ⟨rfl, rfl, rfl, rfl⟩ := zgo_inj h; exact ⟨b, hp, h1, o, rest, ci, k, fs, v, h2, h3, h4, h5, rfl⟩
  case putfield ix => obtain ⟨h1, v, o, rest, ci, k, fs, h2, h3, h4, h5, h6, h7, h⟩ := h; obtain ⟨rfl, rfl, rfl, rfl⟩ := zgo_inj h; exact ⟨b, hp, h1, v, o, _, ci, k, fs, h2, h3, h4, h5, h6, h7, rfl⟩
  case iaload =>
    obtain ⟨h1, j, o, rest, h2, ⟨sl, x, h3, h4, h5, h⟩ | ⟨h3, h4, h⟩⟩ := h
    · obtain ⟨rfl, rfl, rfl, rfl⟩ := zgo_inj h; exact ⟨b, hp, h1, j, o, rest, h2, Or.inl ⟨sl, x, h3, h4, h5, rfl⟩⟩
    · obtain ⟨rfl, rfl, rfl, rfl⟩ := zgo_inj h; exact ⟨b, hp, h1, j, o, rest, h2, Or.inr ⟨h3, h4, rfl⟩⟩
  case iastore => obtain ⟨h1, x, j, o, rest, sl, h2, h3, h4, h⟩ := h; obtain ⟨rfl, rfl, rfl, rfl⟩ := zgo_inj h; exact ⟨b, hp, h1, x, j, o, _, sl, h2, h3, h4, rfl⟩
  case baload => obtain ⟨h1, j, o, rest, sl, x, h2, h3, h4, h5, h⟩ := h; obtain ⟨rfl, rfl, rfl, rfl⟩ := zgo_inj h; exact ⟨b, hp, h1, j, o, rest, sl, x, h2, h3, h4, h5, rfl⟩
  case bastore => obtain ⟨h1, x, j, o, rest, sl, h2, h0, h3, h4, h⟩ := h; obtain ⟨rfl, rfl, rfl, rfl⟩ := zgo_inj h; exact ⟨b, hp, h1, x, j, o, _, sl, h2, h0, h3, h4, rfl⟩
  case aaload => obtain ⟨h1, j, o, rest, t, sl, v, h2, h3, h4, h5, h6, h7, h⟩ := h; obtain ⟨rfl, rfl, rfl, rfl⟩ := zgo_inj h; exact ⟨b, hp, h1, j, o, rest, t, sl, v, h2, h3, h4, h5, h6, h7, rfl⟩
  case aastore => obtain ⟨h1, q, j, o, rest, t, sl, ci, fs, h2, h3, h4, h5, h6, h7, h⟩ := h; obtain ⟨rfl, rfl, rfl, rfl⟩ := zgo_inj h; exact ⟨b, hp, h1, q, j, o, _, t, sl, ci, fs, h2, h3, h4, h5, h6, h7, rfl⟩
  case arraylength =>
    obtain ⟨h1, o, rest, h2, ⟨t, sl, h3, h4, h5, h⟩ | ⟨h3, h⟩⟩ := h
    · obtain ⟨rfl, rfl, rfl, rfl⟩ := zgo_inj h; exact ⟨b, hp, h1, o, rest, h2, Or.inl ⟨t, sl, h3, h4, h5, rfl⟩⟩
    · obtain ⟨rfl, rfl, rfl, rfl⟩ := zgo_inj h; exact ⟨b, hp, h1, o, rest, h2, Or.inr ⟨h3, rfl⟩⟩
  case new ix => obtain ⟨h1, ci, h2, h3, h⟩ := h; obtain ⟨rfl, rfl, rfl, rfl⟩ := zgo_inj h; exact ⟨b, hp, h1, ci, h2, h3, rfl⟩
  case newarray q => obtain ⟨h1, n, rest, t, h2, h3, h4, h5, h6, h⟩ := h; obtain ⟨rfl, rfl, rfl, rfl⟩ := zgo_inj h; exact ⟨b, hp, h1, n, rest, t, h2, h3, h4, h5, h6, rfl⟩
  case anewarray ix => obtain ⟨h1, n, rest, ci, h2, h3, h4, h5, h6, h7, h⟩ := h; obtain ⟨rfl, rfl, rfl, rfl⟩ := zgo_inj h; exact ⟨b, hp, h1, n, rest, ci, h2, h3, h4, h5, h6, h7, rfl⟩
  case invokevirtual ix => obtain ⟨-, j, As, o, rest, N, -, -, -, -, -, -, h⟩ := h; cases h
  case invokespecial ix =>
    rcases h with ⟨h1, ⟨o, rest, h2, h3, h4, h⟩ | ⟨j, As, o, rest, N, -, -, -, -, -, -, -, h⟩⟩
    · obtain ⟨rfl, rfl, rfl, rfl⟩ := zgo_inj h; exact ⟨b, hp, h1, Or.inl ⟨o, _, h2, h3, h4, rfl⟩⟩
    · cases h
  case invokestatic ix =>
    rcases h with ⟨h1, ⟨x, y, rest, h2, h3, h4, h⟩ | ⟨x, y, rest, h2, h3, h4, h⟩ | ⟨j, As, rest, N, -, -, -, -, -, h⟩⟩
    · obtain ⟨rfl, rfl, rfl, rfl⟩ := zgo_inj h; exact ⟨b, hp, h1, Or.inl ⟨x, y, rest, h2, h3, h4, rfl⟩⟩
    · obtain ⟨rfl, rfl, rfl, rfl⟩ := zgo_inj h; exact ⟨b, hp, h1, Or.inr (Or.inl ⟨x, y, rest, h2, h3, h4, rfl⟩)⟩
    · cases h
  case ireturn => obtain ⟨-, x, -, -, h⟩ := h; cases h
  case areturn => obtain ⟨-, v, n, -, -, -, h⟩ := h; cases h
  case return_ => obtain ⟨-, -, -, h⟩ := h; cases h
  all_goals exact False.elim h
theorem zweak2 {L : Nat} {xs : Nat → Int32} {M : zPM} {i : Instr} {len pc : Nat} {a b : zL} {st : List Value} {w : zW} {x : Option Value ⊕ (Nat × List Value × List Value)} (h : zStep L xs M i len pc a st w (.inr x)) : zStep L xs M i len pc b st w (.inr x) := by
  cases x with
  | inl v =>
    rcases zretI h with rfl | rfl | rfl
    · exact h
    · exact h
    · exact h
  | inr q =>
    rcases zno h with ⟨ix, rfl⟩ | ⟨ix, rfl⟩ | ⟨ix, rfl⟩
    · exact h
    · rcases h with ⟨h1, ⟨o, rest, -, -, -, h⟩ | h⟩
      · exact (zgo_no h).elim
      · exact ⟨h1, Or.inr h⟩
    · rcases h with ⟨h1, ⟨x, y, rest, -, -, -, h⟩ | ⟨x, y, rest, -, -, -, h⟩ | h⟩
      · exact (zgo_no h).elim
      · exact (zgo_no h).elim
      · exact ⟨h1, Or.inr (Or.inr h)⟩
theorem zrun_weak {L : Nat} {xs : Nat → Int32} {E : Nat → List Value → zW → Option Value → zW → Prop} {M : zPM} {r : Option Value} {w' : zW} : ∀ (n pc : Nat) (a b : zL) (st : List Value) (w : zW), zlp a b → zRun L xs E M n pc a st w r w' → zRun L xs E M n pc b st w r w' := by
  intro n
  induction n with
  | zero => intro pc a b st w _ h; exact False.elim h
  | succ n ih =>
    intro pc a b st w hp h
    obtain ⟨i, len, sr, hd, hs, hm⟩ := h
    match sr, hs, hm with
    | .inl (pc2, a2, st2, w2), hs, hm =>
      obtain ⟨b2, hp2, hs2⟩ := zweak hp hs
      exact ⟨i, len, _, hd, hs2, ih _ _ _ _ _ hp2 hm⟩
    | .inr (.inl v), hs, hm => exact ⟨i, len, _, hd, zweak2 hs, hm⟩
    | .inr (.inr (j, As, rest)), hs, hm =>
      obtain ⟨v, w2, he, hr⟩ := hm
      exact ⟨i, len, _, hd, zweak2 hs, v, w2, he, ih _ _ _ _ _ hp hr⟩
end
section
-- ===== rows: one instruction of a run over a store =====
section ZROWS
variable {L : Nat} {xs : Nat → Int32} {d : Nat} {M : zPM} {pc : Nat} {ls : zL} {st : List Value} {g g' : zS} {r : Option Value}
theorem y0 {i : Instr} {len pc2 : Nat} {ls2 : zL} {st2 : List Value} {g2 : zS} (hd : decode M.2.1 pc = .ok (i, len)) (hs : zStep L xs M i len pc ls st (wd g) (zgo pc2 ls2 st2 (wd g2))) (kk : zG2 L xs d M pc2 ls2 st2 g2 r g') : zG2 L xs d M pc ls st g r g' := by
  obtain ⟨n, h⟩ := kk
  exact ⟨n + 1, i, len, _, hd, hs, h⟩
theorem y_call {i : Instr} {len j : Nat} {As rest : List Value} {v : Option Value} {g2 : zS} (hd : decode M.2.1 pc = .ok (i, len)) (hs : zStep L xs M i len pc ls st (wd g) (.inr (.inr (j, As, rest)))) (he : zE2 L xs d j As g v g2) (kk : zG2 L xs d M (pc + len) ls (v.toList ++ rest) g2 r g') : zG2 L xs d M pc ls st g r g' := by
  obtain ⟨n, h⟩ := kk
  exact ⟨n + 1, i, len, _, hd, hs, v, _, he, h⟩
theorem y_ret {i : Instr} {len : Nat} {v : Option Value} (hd : decode M.2.1 pc = .ok (i, len)) (hs : zStep L xs M i len pc ls st (wd g) (.inr (.inl v))) : zG2 L xs d M pc ls st g v g := ⟨1, i, len, _, hd, hs, rfl, rfl⟩
theorem y_weak {ls0 : zL} (h : zle ls0 ls) (kk : zG2 L xs d M pc ls0 st g r g') : zG2 L xs d M pc ls st g r g' := by
  obtain ⟨n, hn⟩ := kk
  exact ⟨n, zrun_weak n pc ls0 ls st (wd g) (zle_lp h) hn⟩
/-- a method's answer out of its body -/
theorem y_ev {j n : Nat} {As : List Value} (hM : zpms[j]? = some M) (ho : M.2.2.2.2 ≠ 99) (hl : (zargs As).length ≤ M.2.2.1) (hi : zini M.2.2.1 As = ls) (kk : zG2 L xs d M 0 ls [] g r g') : zE2 L xs (d + 1) j As g r g' := by
  obtain ⟨n, h⟩ := kk
  exact Or.inr (Or.inr ⟨M, n, hM, ho, hl, by rw [hi]; exact h⟩)
theorem y_null (hd : decode M.2.1 pc = .ok (.aconst_null, 1)) (kk : zG2 L xs d M (pc + 1) ls (.null :: st) g r g') : zG2 L xs d M pc ls (st) g r g' := y0 hd ⟨rfl, rfl⟩ kk
theorem y_aload_n {k : Fin 4} {v : Value} (hd : decode M.2.1 pc = .ok (.aload_n k, 1)) (hl : ls[(k : Nat)]? = some (some v)) (hv : zrv v = true) (kk : zG2 L xs d M (pc + 1) ls (v :: st) g r g') : zG2 L xs d M pc ls (st) g r g' := y0 hd ⟨rfl, _, hl, hv, rfl⟩ kk
theorem y_aload {k : Nat} {v : Value} (hd : decode M.2.1 pc = .ok (.aload k, 2)) (hl : ls[k]? = some (some v)) (hv : zrv v = true) (kk : zG2 L xs d M (pc + 2) ls (v :: st) g r g') : zG2 L xs d M pc ls (st) g r g' := y0 hd ⟨rfl, _, hl, hv, rfl⟩ kk
theorem y_iload_n {k : Fin 4} {x : Int32} (hd : decode M.2.1 pc = .ok (.iload_n k, 1)) (hl : ls[(k : Nat)]? = some (some (.int x))) (kk : zG2 L xs d M (pc + 1) ls (.int x :: st) g r g') : zG2 L xs d M pc ls (st) g r g' := y0 hd ⟨rfl, _, hl, rfl⟩ kk
theorem y_iload {k : Nat} {x : Int32} (hd : decode M.2.1 pc = .ok (.iload k, 2)) (hl : ls[k]? = some (some (.int x))) (kk : zG2 L xs d M (pc + 2) ls (.int x :: st) g r g') : zG2 L xs d M pc ls (st) g r g' := y0 hd ⟨rfl, _, hl, rfl⟩ kk
theorem y_lload_n {k : Fin 4} {x : Int64} (hd : decode M.2.1 pc = .ok (.lload_n k, 1)) (hl : ls[(k : Nat)]? = some (some (.long x))) (kk : zG2 L xs d M (pc + 1) ls (.long x :: st) g r g') : zG2 L xs d M pc ls (st) g r g' := y0 hd ⟨rfl, _, hl, rfl⟩ kk
theorem y_lload {k : Nat} {x : Int64} (hd : decode M.2.1 pc = .ok (.lload k, 2)) (hl : ls[k]? = some (some (.long x))) (kk : zG2 L xs d M (pc + 2) ls (.long x :: st) g r g') : zG2 L xs d M pc ls (st) g r g' := y0 hd ⟨rfl, _, hl, rfl⟩ kk
theorem y_iconst {n : Int} {v : Int32} (hd : decode M.2.1 pc = .ok (.iconst n, 1)) (hv : Int32.ofInt n = v) (kk : zG2 L xs d M (pc + 1) ls (.int v :: st) g r g') : zG2 L xs d M pc ls (st) g r g' := y0 hd ⟨rfl, by rw [hv]⟩ kk
theorem y_bipush {n : Int} {v : Int32} (hd : decode M.2.1 pc = .ok (.bipush n, 2)) (hv : (Int8.ofInt n).toInt32 = v) (kk : zG2 L xs d M (pc + 2) ls (.int v :: st) g r g') : zG2 L xs d M pc ls (st) g r g' := y0 hd ⟨rfl, by rw [hv]⟩ kk
theorem y_sipush {n : Int} {v : Int32} (hd : decode M.2.1 pc = .ok (.sipush n, 3)) (hv : (Int16.ofInt n).toInt32 = v) (kk : zG2 L xs d M (pc + 3) ls (.int v :: st) g r g') : zG2 L xs d M pc ls (st) g r g' := y0 hd ⟨rfl, by rw [hv]⟩ kk
theorem y_lconst {n : Fin 2} {v : Int64} (hd : decode M.2.1 pc = .ok (.lconst n, 1)) (hv : Int64.ofNat (n : Nat) = v) (kk : zG2 L xs d M (pc + 1) ls (.long v :: st) g r g') : zG2 L xs d M pc ls (st) g r g' := y0 hd ⟨rfl, by rw [hv]⟩ kk
theorem y_ldc {ix : Nat} {v : Int32} (hd : decode M.2.1 pc = .ok (.ldc ix, 2)) (hv : zix M.2.2.2.2 ix = some v) (kk : zG2 L xs d M (pc + 2) ls (.int v :: st) g r g') : zG2 L xs d M pc ls (st) g r g' := y0 hd ⟨rfl, Or.inl ⟨_, hv, rfl⟩⟩ kk
theorem y_ldcs {ix : Nat} (hd : decode M.2.1 pc = .ok (.ldc ix, 2)) (h1 : M.2.2.2.2 = 1) (h2 : ix = 81) (kk : zG2 L xs d M (pc + 2) ls (.ref zSTR :: st) g r g') : zG2 L xs d M pc ls (st) g r g' := y0 hd ⟨rfl, Or.inr ⟨h1, h2, rfl⟩⟩ kk
theorem y_ldcw {ix : Nat} {v : Int32} (hd : decode M.2.1 pc = .ok (.ldc_w ix, 3)) (hv : zix M.2.2.2.2 ix = some v) (kk : zG2 L xs d M (pc + 3) ls (.int v :: st) g r g') : zG2 L xs d M pc ls (st) g r g' := y0 hd ⟨rfl, _, hv, rfl⟩ kk
theorem y_ldc2 {ix : Nat} {v : Int64} (hd : decode M.2.1 pc = .ok (.ldc2_w ix, 3)) (hv : zlx M.2.2.2.2 ix = some v) (kk : zG2 L xs d M (pc + 3) ls (.long v :: st) g r g') : zG2 L xs d M pc ls (st) g r g' := y0 hd ⟨rfl, _, hv, rfl⟩ kk
theorem y_istore_n {k : Fin 4} {x : Int32} {ls2 : zL} (hd : decode M.2.1 pc = .ok (.istore_n k, 1)) (hn : znl ls = true) (hk : (k : Nat) < ls.length) (he : ls.set (k : Nat) (some (.int x)) = ls2) (kk : zG2 L xs d M (pc + 1) ls2 (st) g r g') : zG2 L xs d M pc ls (.int x :: st) g r g' := y0 hd ⟨rfl, _, _, rfl, hn, hk, by rw [he]⟩ kk
theorem y_istore {k : Nat} {x : Int32} {ls2 : zL} (hd : decode M.2.1 pc = .ok (.istore k, 2)) (hn : znl ls = true) (hk : k < ls.length) (he : ls.set k (some (.int x)) = ls2) (kk : zG2 L xs d M (pc + 2) ls2 (st) g r g') : zG2 L xs d M pc ls (.int x :: st) g r g' := y0 hd ⟨rfl, _, _, rfl, hn, hk, by rw [he]⟩ kk
theorem y_astore_n {k : Fin 4} {v : Value} {ls2 : zL} (hd : decode M.2.1 pc = .ok (.astore_n k, 1)) (hv : zrv v = true) (hn : znl ls = true) (hk : (k : Nat) < ls.length) (he : ls.set (k : Nat) (some v) = ls2) (kk : zG2 L xs d M (pc + 1) ls2 (st) g r g') : zG2 L xs d M pc ls (v :: st) g r g' := y0 hd ⟨rfl, _, _, rfl, hv, hn, hk, by rw [he]⟩ kk
theorem y_astore {k : Nat} {v : Value} {ls2 : zL} (hd : decode M.2.1 pc = .ok (.astore k, 2)) (hv : zrv v = true) (hn : znl ls = true) (hk : k < ls.length) (he : ls.set k (some v) = ls2) (kk : zG2 L xs d M (pc + 2) ls2 (st) g r g') : zG2 L xs d M pc ls (v :: st) g r g' := y0 hd ⟨rfl, _, _, rfl, hv, hn, hk, by rw [he]⟩ kk
theorem y_iinc {k : Nat} {n : Int} {x v : Int32} {ls2 : zL} (hd : decode M.2.1 pc = .ok (.iinc k n, 3)) (hl : ls[k]? = some (some (.int x))) (hn : znl ls = true) (hv : x + Int32.ofInt n = v) (he : ls.set k (some (.int v)) = ls2) (kk : zG2 L xs d M (pc + 3) ls2 (st) g r g') : zG2 L xs d M pc ls (st) g r g' := y0 hd ⟨rfl, _, hl, hn, by rw [hv, he]⟩ kk
theorem y_iadd {x y : Int32} (hd : decode M.2.1 pc = .ok (.iadd, 1)) (kk : zG2 L xs d M (pc + 1) ls (.int (x + y) :: st) g r g') : zG2 L xs d M pc ls (.int y :: .int x :: st) g r g' := y0 hd ⟨rfl, _, _, _, rfl, rfl⟩ kk
theorem y_isub {x y : Int32} (hd : decode M.2.1 pc = .ok (.isub, 1)) (kk : zG2 L xs d M (pc + 1) ls (.int (x - y) :: st) g r g') : zG2 L xs d M pc ls (.int y :: .int x :: st) g r g' := y0 hd ⟨rfl, _, _, _, rfl, rfl⟩ kk
theorem y_imul {x y : Int32} (hd : decode M.2.1 pc = .ok (.imul, 1)) (kk : zG2 L xs d M (pc + 1) ls (.int (x * y) :: st) g r g') : zG2 L xs d M pc ls (.int y :: .int x :: st) g r g' := y0 hd ⟨rfl, _, _, _, rfl, rfl⟩ kk
theorem y_iand {x y : Int32} (hd : decode M.2.1 pc = .ok (.iand, 1)) (kk : zG2 L xs d M (pc + 1) ls (.int (x &&& y) :: st) g r g') : zG2 L xs d M pc ls (.int y :: .int x :: st) g r g' := y0 hd ⟨rfl, _, _, _, rfl, rfl⟩ kk
theorem y_ior {x y : Int32} (hd : decode M.2.1 pc = .ok (.ior, 1)) (kk : zG2 L xs d M (pc + 1) ls (.int (x ||| y) :: st) g r g') : zG2 L xs d M pc ls (.int y :: .int x :: st) g r g' := y0 hd ⟨rfl, _, _, _, rfl, rfl⟩ kk
theorem y_ixor {x y : Int32} (hd : decode M.2.1 pc = .ok (.ixor, 1)) (kk : zG2 L xs d M (pc + 1) ls (.int (x ^^^ y) :: st) g r g') : zG2 L xs d M pc ls (.int y :: .int x :: st) g r g' := y0 hd ⟨rfl, _, _, _, rfl, rfl⟩ kk
theorem y_ishl {x y : Int32} (hd : decode M.2.1 pc = .ok (.ishl, 1)) (kk : zG2 L xs d M (pc + 1) ls (.int (x <<< (y &&& 31)) :: st) g r g') : zG2 L xs d M pc ls (.int y :: .int x :: st) g r g' := y0 hd ⟨rfl, _, _, _, rfl, rfl⟩ kk
theorem y_ishr {x y : Int32} (hd : decode M.2.1 pc = .ok (.ishr, 1)) (kk : zG2 L xs d M (pc + 1) ls (.int (x >>> (y &&& 31)) :: st) g r g') : zG2 L xs d M pc ls (.int y :: .int x :: st) g r g' := y0 hd ⟨rfl, _, _, _, rfl, rfl⟩ kk
theorem y_iushr {x y : Int32} (hd : decode M.2.1 pc = .ok (.iushr, 1)) (kk : zG2 L xs d M (pc + 1) ls (.int ((x.toUInt32 >>> (y.toUInt32 &&& Int32.toUInt32 31)).toInt32) :: st) g r g') : zG2 L xs d M pc ls (.int y :: .int x :: st) g r g' := y0 hd ⟨rfl, _, _, _, rfl, rfl⟩ kk
theorem y_idiv {x y : Int32} (hd : decode M.2.1 pc = .ok (.idiv, 1)) (hy : ¬ y = 0) (kk : zG2 L xs d M (pc + 1) ls (.int (x / y) :: st) g r g') : zG2 L xs d M pc ls (.int y :: .int x :: st) g r g' := y0 hd ⟨rfl, _, _, _, rfl, hy, rfl⟩ kk
theorem y_irem {x y : Int32} (hd : decode M.2.1 pc = .ok (.irem, 1)) (hy : ¬ y = 0) (kk : zG2 L xs d M (pc + 1) ls (.int (x - x / y * y) :: st) g r g') : zG2 L xs d M pc ls (.int y :: .int x :: st) g r g' := y0 hd ⟨rfl, _, _, _, rfl, hy, rfl⟩ kk
theorem y_ineg {x : Int32} (hd : decode M.2.1 pc = .ok (.ineg, 1)) (kk : zG2 L xs d M (pc + 1) ls (.int (-x) :: st) g r g') : zG2 L xs d M pc ls (.int x :: st) g r g' := y0 hd ⟨rfl, _, _, rfl, rfl⟩ kk
theorem y_i2l {x : Int32} (hd : decode M.2.1 pc = .ok (.i2l, 1)) (kk : zG2 L xs d M (pc + 1) ls (.long x.toInt64 :: st) g r g') : zG2 L xs d M pc ls (.int x :: st) g r g' := y0 hd ⟨rfl, _, _, rfl, rfl⟩ kk
theorem y_lcmp {x y : Int64} (hd : decode M.2.1 pc = .ok (.lcmp, 1)) (kk : zG2 L xs d M (pc + 1) ls (.int (lg_cmp x y) :: st) g r g') : zG2 L xs d M pc ls (.long y :: .long x :: st) g r g' := y0 hd ⟨rfl, _, _, _, rfl, rfl⟩ kk
theorem y_dup {v : Value} (hd : decode M.2.1 pc = .ok (.dup, 1)) (hv : v.category = 1) (kk : zG2 L xs d M (pc + 1) ls (v :: v :: st) g r g') : zG2 L xs d M pc ls (v :: st) g r g' := y0 hd ⟨rfl, _, _, rfl, hv, rfl⟩ kk
theorem y_dup2 {v u : Value} (hd : decode M.2.1 pc = .ok (.dup2, 1)) (hv : v.category = 1) (hu : u.category = 1) (kk : zG2 L xs d M (pc + 1) ls (v :: u :: v :: u :: st) g r g') : zG2 L xs d M pc ls (v :: u :: st) g r g' := y0 hd ⟨rfl, _, _, _, rfl, hv, hu, rfl⟩ kk
theorem y_pop {v : Value} (hd : decode M.2.1 pc = .ok (.pop, 1)) (hv : v.category = 1) (kk : zG2 L xs d M (pc + 1) ls (st) g r g') : zG2 L xs d M pc ls (v :: st) g r g' := y0 hd ⟨rfl, _, _, rfl, hv, rfl⟩ kk
theorem y_ifT {c : Jvm.ClassFile.Cond} {off : Int} {tgt : Nat} {x : Int32} (hd : decode M.2.1 pc = .ok (.ifCond c off, 3)) (ht : (pc : Int) + off = (tgt : Int)) (hc : zcond c x 0) (kk : zG2 L xs d M (tgt) ls (st) g r g') : zG2 L xs d M pc ls (.int x :: st) g r g' := y0 hd ⟨rfl, _, _, _, rfl, ht, Or.inl ⟨hc, rfl⟩⟩ kk
theorem y_ifF {c : Jvm.ClassFile.Cond} {off : Int} (tgt : Nat) {x : Int32} (hd : decode M.2.1 pc = .ok (.ifCond c off, 3)) (ht : (pc : Int) + off = (tgt : Int)) (hc : ¬ zcond c x 0) (kk : zG2 L xs d M (pc + 3) ls (st) g r g') : zG2 L xs d M pc ls (.int x :: st) g r g' := y0 hd ⟨rfl, _, _, _, rfl, ht, Or.inr ⟨hc, rfl⟩⟩ kk
theorem y_icT {c : Jvm.ClassFile.Cond} {off : Int} {tgt : Nat} {x y : Int32} (hd : decode M.2.1 pc = .ok (.if_icmp c off, 3)) (ht : (pc : Int) + off = (tgt : Int)) (hc : zcond c x y) (kk : zG2 L xs d M (tgt) ls (st) g r g') : zG2 L xs d M pc ls (.int y :: .int x :: st) g r g' := y0 hd ⟨rfl, _, _, _, _, rfl, ht, Or.inl ⟨hc, rfl⟩⟩ kk
theorem y_icF {c : Jvm.ClassFile.Cond} {off : Int} (tgt : Nat) {x y : Int32} (hd : decode M.2.1 pc = .ok (.if_icmp c off, 3)) (ht : (pc : Int) + off = (tgt : Int)) (hc : ¬ zcond c x y) (kk : zG2 L xs d M (pc + 3) ls (st) g r g') : zG2 L xs d M pc ls (.int y :: .int x :: st) g r g' := y0 hd ⟨rfl, _, _, _, _, rfl, ht, Or.inr ⟨hc, rfl⟩⟩ kk
theorem y_nullT {off : Int} {tgt : Nat} (hd : decode M.2.1 pc = .ok (.ifnull off, 3)) (ht : (pc : Int) + off = (tgt : Int)) (kk : zG2 L xs d M (tgt) ls (st) g r g') : zG2 L xs d M pc ls (.null :: st) g r g' := y0 hd ⟨rfl, Or.inl ⟨_, _, rfl, ht, rfl⟩⟩ kk
theorem y_nullF {off : Int} {q : Nat} (hd : decode M.2.1 pc = .ok (.ifnull off, 3)) (kk : zG2 L xs d M (pc + 3) ls (st) g r g') : zG2 L xs d M pc ls (.ref q :: st) g r g' := y0 hd ⟨rfl, Or.inr ⟨_, _, rfl, rfl⟩⟩ kk
theorem y_nonnullT {off : Int} {tgt q : Nat} (hd : decode M.2.1 pc = .ok (.ifnonnull off, 3)) (ht : (pc : Int) + off = (tgt : Int)) (kk : zG2 L xs d M (tgt) ls (st) g r g') : zG2 L xs d M pc ls (.ref q :: st) g r g' := y0 hd ⟨rfl, Or.inl ⟨_, _, _, rfl, ht, rfl⟩⟩ kk
theorem y_nonnullF {off : Int} (hd : decode M.2.1 pc = .ok (.ifnonnull off, 3)) (kk : zG2 L xs d M (pc + 3) ls (st) g r g') : zG2 L xs d M pc ls (.null :: st) g r g' := y0 hd ⟨rfl, Or.inr ⟨_, rfl, rfl⟩⟩ kk
theorem y_goto {off : Int} {tgt : Nat} (hd : decode M.2.1 pc = .ok (.goto off, 3)) (ht : (pc : Int) + off = (tgt : Int)) (kk : zG2 L xs d M (tgt) ls (st) g r g') : zG2 L xs d M pc ls (st) g r g' := y0 hd ⟨rfl, _, ht, rfl⟩ kk
theorem y_tswD {df lo hi : Int} {offs : Array Int} {len tgt : Nat} {x : Int32} (hd : decode M.2.1 pc = .ok (.tableswitch df lo hi offs, len)) (hx : x.toInt < lo ∨ hi < x.toInt) (ht : (pc : Int) + df = (tgt : Int)) (kk : zG2 L xs d M tgt ls st g r g') : zG2 L xs d M pc ls (.int x :: st) g r g' := y0 hd ⟨_, _, _, rfl, Or.inl ⟨hx, ht⟩, rfl⟩ kk
theorem y_tsw {df lo hi off : Int} {offs : Array Int} {len tgt : Nat} {x : Int32} (v : Int32) (hd : decode M.2.1 pc = .ok (.tableswitch df lo hi offs, len)) (hx : x = v) (h1 : ¬ v.toInt < lo) (h2 : ¬ hi < v.toInt) (ho : offs[(v.toInt - lo).toNat]? = some off) (ht : (pc : Int) + off = (tgt : Int)) (kk : zG2 L xs d M tgt ls st g r g') : zG2 L xs d M pc ls (.int x :: st) g r g' := by
  subst hx
  exact y0 hd ⟨_, _, _, rfl, Or.inr ⟨h1, h2, _, ho, ht⟩, rfl⟩ kk
theorem y_getI {ix o ci k : Nat} {sl : List (Option Nat)} (hd : decode M.2.1 pc = .ok (.getfield ix, 3)) (hf : zfx M.2.2.2.2 ix = some (ci, k)) (hs : zsh o = some (ci, sl)) (hk : sl[k]? = some none) (kk : zG2 L xs d M (pc + 3) ls (.int (g o k) :: st) g r g') : zG2 L xs d M pc ls (.ref o :: st) g r g' := y0 hd ⟨rfl, _, _, _, _, _, _, rfl, hf, wd_get hs, zsl_get hk, rfl⟩ kk
theorem y_getR {ix o ci k q : Nat} {sl : List (Option Nat)} (hd : decode M.2.1 pc = .ok (.getfield ix, 3)) (hf : zfx M.2.2.2.2 ix = some (ci, k)) (hs : zsh o = some (ci, sl)) (hk : sl[k]? = some (some q)) (kk : zG2 L xs d M (pc + 3) ls (.ref q :: st) g r g') : zG2 L xs d M pc ls (.ref o :: st) g r g' := y0 hd ⟨rfl, _, _, _, _, _, _, rfl, hf, wd_get hs, zsl_get hk, rfl⟩ kk
theorem y_putI {ix o ci k : Nat} {x : Int32} {sl : List (Option Nat)} (hd : decode M.2.1 pc = .ok (.putfield ix, 3)) (hf : zfx M.2.2.2.2 ix = some (ci, k)) (hs : zsh o = some (ci, sl)) (hk : sl[k]? = some none) (hi : zdes ci k = "I") (hfin : zfin ci k = false) (kk : zG2 L xs d M (pc + 3) ls st (zup g o k x) r g') : zG2 L xs d M pc ls (.int x :: .ref o :: st) g r g' := by
  refine y0 hd ⟨rfl, _, _, _, _, _, _, rfl, hf, wd_get hs, ?_, ?_, ?_, ?_⟩ kk
  · rw [zsl_len]
    exact (List.getElem?_eq_some_iff.mp hk).1
  · unfold zfit
    rw [if_pos hi]
  · intro h
    rw [hfin] at h
    cases h
  · rw [wd_set hs hk]
theorem zArr_at {a i : Nat} (h : zArr a) (hi : i < zlen a) : (List.replicate (zlen a) (none : Option Nat))[i]? = some none := by
  rw [List.getElem?_replicate, if_pos hi]
theorem y_iald {a : Nat} {i : Int32} (hd : decode M.2.1 pc = .ok (.iaload, 1)) (ha : zArr a) (hi : zin i (zlen a)) (kk : zG2 L xs d M (pc + 1) ls (.int (g a i.toNatClampNeg) :: st) g r g') : zG2 L xs d M pc ls (.int i :: .ref a :: st) g r g' := by
  refine y0 hd ⟨rfl, _, _, _, rfl, Or.inl ⟨_, _, wd_get ha, ?_, zsl_get (zArr_at ha (zin_lt hi)), rfl⟩⟩ kk
  rw [zsl_len, List.length_replicate]
  exact zin_vp hi
theorem y_iast {a : Nat} {i x : Int32} (hd : decode M.2.1 pc = .ok (.iastore, 1)) (ha : zArr a) (hi : zin i (zlen a)) (kk : zG2 L xs d M (pc + 1) ls st (zup g a i.toNatClampNeg x) r g') : zG2 L xs d M pc ls (.int x :: .int i :: .ref a :: st) g r g' := by
  refine y0 hd ⟨rfl, _, _, _, _, _, rfl, wd_get ha, ?_, ?_⟩ kk
  · rw [zsl_len, List.length_replicate]
    exact zin_vp hi
  · rw [wd_set ha (zArr_at ha (zin_lt hi))]
def zBoo (a : Nat) : Prop := zsh a = some (21, List.replicate (zlen a) none)
theorem zBoo_at {a i : Nat} (hi : i < zlen a) : (List.replicate (zlen a) (none : Option Nat))[i]? = some none := by
  rw [List.getElem?_replicate, if_pos hi]
theorem y_bald {a : Nat} {i : Int32} (hd : decode M.2.1 pc = .ok (.baload, 1)) (ha : zBoo a) (hi : zin i (zlen a)) (kk : zG2 L xs d M (pc + 1) ls (.int (g a i.toNatClampNeg) :: st) g r g') : zG2 L xs d M pc ls (.int i :: .ref a :: st) g r g' := by
  refine y0 hd ⟨rfl, _, _, _, _, _, rfl, wd_get ha, ?_, zsl_get (zBoo_at (zin_lt hi)), rfl⟩ kk
  rw [zsl_len, List.length_replicate]
  exact zin_vp hi
theorem y_bast {a : Nat} {i x : Int32} (hd : decode M.2.1 pc = .ok (.bastore, 1)) (ha : zBoo a) (hi : zin i (zlen a)) (hx : x = 0 ∨ x = 1) (kk : zG2 L xs d M (pc + 1) ls st (zup g a i.toNatClampNeg x) r g') : zG2 L xs d M pc ls (.int x :: .int i :: .ref a :: st) g r g' := by
  refine y0 hd ⟨rfl, _, _, _, _, _, rfl, hx, wd_get ha, ?_, ?_⟩ kk
  · rw [zsl_len, List.length_replicate]
    exact zin_vp hi
  · rw [wd_set ha (zBoo_at (zin_lt hi))]
/-- a row of references, all there -/
def zRef (t a : Nat) : Prop := ∃ sl : List (Option Nat), zsh a = some (t, sl) ∧ ∀ i, i < sl.length → sl[i]? = some (some (zel a i))
theorem y_aald {a t : Nat} {i : Int32} (hd : decode M.2.1 pc = .ok (.aaload, 1)) (ht : t = 22 ∨ t = 23) (ha : zRef t a) (hi : zin i (zlen a)) (kk : zG2 L xs d M (pc + 1) ls (.ref (zel a i.toNatClampNeg) :: st) g r g') : zG2 L xs d M pc ls (.int i :: .ref a :: st) g r g' := by
  obtain ⟨sl, h1, h2⟩ := ha
  have hl : zlen a = sl.length := by
    unfold zlen
    rw [h1]
  rw [hl] at hi
  refine y0 hd ⟨rfl, _, _, _, t, _, _, rfl, ht, wd_get h1, ?_, zsl_get (h2 _ (zin_lt hi)), rfl, rfl⟩ kk
  rw [zsl_len]
  exact zin_vp hi
theorem y_alen {a t : Nat} {sl : List (Option Nat)} {v : Int32} (hd : decode M.2.1 pc = .ok (.arraylength, 1)) (ha : zsh a = some (t, sl)) (h1 : 20 ≤ t) (h2 : t ≤ 23) (hv : Int32.ofNat sl.length = v) (kk : zG2 L xs d M (pc + 1) ls (.int v :: st) g r g') : zG2 L xs d M pc ls (.ref a :: st) g r g' :=
  y0 hd ⟨rfl, _, _, rfl, Or.inl ⟨t, _, wd_get ha, h1, h2, by rw [zsl_len, hv]⟩⟩ kk
theorem y_alenA {a : Nat} (hd : decode M.2.1 pc = .ok (.arraylength, 1)) (ha : zArr a) (kk : zG2 L xs d M (pc + 1) ls (.int (nI (zlen a)) :: st) g r g') : zG2 L xs d M pc ls (.ref a :: st) g r g' :=
  y_alen hd ha (by decide) (by decide) (by rw [List.length_replicate]; rfl) kk
theorem y_sld {i : Int32} (hd : decode M.2.1 pc = .ok (.iaload, 1)) (hi : zin i L) (kk : zG2 L xs d M (pc + 1) ls (.int (xs i.toNatClampNeg) :: st) g r g') : zG2 L xs d M pc ls (.int i :: .ref zSCR :: st) g r g' := y0 hd ⟨rfl, _, _, _, rfl, Or.inr ⟨rfl, zin_vp hi, rfl⟩⟩ kk
theorem y_slen (hd : decode M.2.1 pc = .ok (.arraylength, 1)) (kk : zG2 L xs d M (pc + 1) ls (.int (nI L) :: st) g r g') : zG2 L xs d M pc ls (.ref zSCR :: st) g r g' := y0 hd ⟨rfl, _, _, rfl, Or.inr ⟨rfl, rfl⟩⟩ kk
theorem y_invV {ix j o ci : Nat} {As rest : List Value} {N : zPM} {v : Option Value} {sl : List (Option Nat)} {g2 : zS} (he : zE2 L xs d j (.ref o :: As) g v g2) (hd : decode M.2.1 pc = .ok (.invokevirtual ix, 3)) (hm : zmx M.2.2.2.2 ix = some (j, 1)) (hN : zpms[j]? = some N) (hna : zna[j]? = some As.length) (hst : st = As.reverse ++ .ref o :: rest) (hcat : zcat rest ≤ 8) (hs : zsh o = some (ci, sl)) (hci : ci < 11) (hc : zcn ci = N.1.cls) (kk : zG2 L xs d M (pc + 3) ls (v.toList ++ rest) g2 r g') : zG2 L xs d M pc ls st g r g' :=
  y_call hd ⟨rfl, _, _, _, _, N, hm, hN, hna, hst, hcat, Or.inl ⟨_, _, wd_get hs, hci, hc⟩, rfl⟩ he kk
theorem y_invT {ix j : Nat} {As rest : List Value} {N : zPM} {v : Option Value} {g2 : zS} (he : zE2 L xs d j (.ref zSTR :: As) g v g2) (hd : decode M.2.1 pc = .ok (.invokevirtual ix, 3)) (hm : zmx M.2.2.2.2 ix = some (j, 1)) (hN : zpms[j]? = some N) (hna : zna[j]? = some As.length) (hst : st = As.reverse ++ .ref zSTR :: rest) (hcat : zcat rest ≤ 8) (hc : N.1.cls = "java/lang/String") (kk : zG2 L xs d M (pc + 3) ls (v.toList ++ rest) g2 r g') : zG2 L xs d M pc ls st g r g' :=
  y_call hd ⟨rfl, _, _, _, _, N, hm, hN, hna, hst, hcat, Or.inr ⟨rfl, hc⟩, rfl⟩ he kk
theorem y_invS {ix j : Nat} {As rest : List Value} {N : zPM} {v : Option Value} {g2 : zS} (he : zE2 L xs d j As g v g2) (hd : decode M.2.1 pc = .ok (.invokestatic ix, 3)) (hm : zmx M.2.2.2.2 ix = some (j, 0)) (hN : zpms[j]? = some N) (hna : zna[j]? = some As.length) (hst : st = As.reverse ++ rest) (hcat : zcat rest ≤ 8) (kk : zG2 L xs d M (pc + 3) ls (v.toList ++ rest) g2 r g') : zG2 L xs d M pc ls st g r g' :=
  y_call hd ⟨rfl, Or.inr (Or.inr ⟨_, _, _, N, hm, hN, hna, hst, hcat, rfl⟩)⟩ he kk
theorem y_max {ix : Nat} {x y : Int32} (hd : decode M.2.1 pc = .ok (.invokestatic ix, 3)) (hm : zmx M.2.2.2.2 ix = some (1001, 0)) (hcat : zcat st ≤ 8) (kk : zG2 L xs d M (pc + 3) ls (.int (if x < y then y else x) :: st) g r g') : zG2 L xs d M pc ls (.int y :: .int x :: st) g r g' :=
  y0 hd ⟨rfl, Or.inl ⟨_, _, _, hm, rfl, hcat, rfl⟩⟩ kk
theorem y_min {ix : Nat} {x y : Int32} (hd : decode M.2.1 pc = .ok (.invokestatic ix, 3)) (hm : zmx M.2.2.2.2 ix = some (1002, 0)) (hcat : zcat st ≤ 8) (kk : zG2 L xs d M (pc + 3) ls (.int (if y < x then y else x) :: st) g r g') : zG2 L xs d M pc ls (.int y :: .int x :: st) g r g' :=
  y0 hd ⟨rfl, Or.inr (Or.inl ⟨_, _, _, hm, rfl, hcat, rfl⟩)⟩ kk
theorem y_iret {x : Int32} (hd : decode M.2.1 pc = .ok (.ireturn, 1)) (hr : M.2.2.2.1 = some .int) : zG2 L xs d M pc ls [.int x] g (some (.int x)) g := y_ret hd ⟨rfl, _, rfl, Or.inl hr, rfl⟩
theorem y_zret {x : Int32} (hd : decode M.2.1 pc = .ok (.ireturn, 1)) (hr : M.2.2.2.1 = some .boolean) (hx : x = 0 ∨ x = 1) : zG2 L xs d M pc ls [.int x] g (some (.int x)) g := y_ret hd ⟨rfl, _, rfl, Or.inr ⟨hr, hx⟩, rfl⟩
theorem y_aret {v : Value} {n : String} (hd : decode M.2.1 pc = .ok (.areturn, 1)) (hr : M.2.2.2.1 = some (.object n)) (hv : zrv v = true) : zG2 L xs d M pc ls [v] g (some v) g := y_ret hd ⟨rfl, _, _, rfl, hv, hr, rfl⟩
theorem y_vret (hd : decode M.2.1 pc = .ok (.return_, 1)) (hr : M.2.2.2.1 = none) : zG2 L xs d M pc ls [] g none g := y_ret hd ⟨rfl, rfl, hr, rfl⟩
end ZROWS
end
section
-- ===== what the constructors make, by running them =====
def zstF (M : zPM) (i : Instr) (len pc : Nat) (ls : zL) (st : List Value) (w : zW) : Option zSR := match i with
  | .aload_n k => match ls[(k : Nat)]? with
    | some (some v) => if len = 1 ∧ zrv v = true then some (zgo (pc + 1) ls (v :: st) w) else none
    | _ => none
  | .iload_n k => match ls[(k : Nat)]? with
    | some (some (.int x)) => if len = 1 then some (zgo (pc + 1) ls (.int x :: st) w) else none
    | _ => none
  | .iconst n => if len = 1 then some (zgo (pc + 1) ls (.int (Int32.ofInt n) :: st) w) else none
  | .bipush n => if len = 2 then some (zgo (pc + 2) ls (.int (Int8.ofInt n).toInt32 :: st) w) else none
  | .sipush n => if len = 3 then some (zgo (pc + 3) ls (.int (Int16.ofInt n).toInt32 :: st) w) else none
  | .istore_n k => match st with
    | .int x :: rest => if len = 1 ∧ znl ls = true ∧ (k : Nat) < ls.length then some (zgo (pc + 1) (ls.set (k : Nat) (some (.int x))) rest w) else none
    | _ => none
  | .astore_n k => match st with
    | v :: rest => if len = 1 ∧ zrv v = true ∧ znl ls = true ∧ (k : Nat) < ls.length then some (zgo (pc + 1) (ls.set (k : Nat) (some v)) rest w) else none
    | _ => none
  | .iinc k n => match ls[k]? with
    | some (some (.int x)) => if len = 3 ∧ znl ls = true then some (zgo (pc + 3) (ls.set k (some (.int (x + Int32.ofInt n)))) st w) else none
    | _ => none
  | .dup => match st with
    | v :: rest => if len = 1 ∧ v.category = 1 then some (zgo (pc + 1) ls (v :: v :: rest) w) else none
    | _ => none
  | .ifCond .ge off => match st with
    | .int x :: rest => if len = 3 ∧ 0 ≤ (pc : Int) + off then (if 0 ≤ x then some (zgo ((pc : Int) + off).toNat ls rest w) else some (zgo (pc + 3) ls rest w)) else none
    | _ => none
  | .if_icmp .ge off => match st with
    | .int y :: .int x :: rest => if len = 3 ∧ 0 ≤ (pc : Int) + off then (if y ≤ x then some (zgo ((pc : Int) + off).toNat ls rest w) else some (zgo (pc + 3) ls rest w)) else none
    | _ => none
  | .goto off => if len = 3 ∧ 0 ≤ (pc : Int) + off then some (zgo ((pc : Int) + off).toNat ls st w) else none
  | .getfield ix => match st with
    | .ref o :: rest => match zfx M.2.2.2.2 ix, w[o]? with
      | some (ci, k), some (t, fs) => match fs[k]? with
        | some v => if len = 3 ∧ t = ci then some (zgo (pc + 3) ls (v :: rest) w) else none
        | none => none
      | _, _ => none
    | _ => none
  | .putfield ix => match st with
    | v :: .ref o :: rest => match zfx M.2.2.2.2 ix, w[o]? with
      | some (ci, k), some (t, fs) => if len = 3 ∧ t = ci ∧ k < fs.length ∧ zfit ci k v = true ∧ (zfin ci k = true → M.1.name = "<init>" ∧ zcn ci = M.1.cls) then some (zgo (pc + 3) ls rest (w.set o (ci, fs.set k v))) else none
      | _, _ => none
    | _ => none
  | .aastore => match st with
    | .ref q :: .int j :: .ref o :: rest => match w[q]?, w[o]? with
      | some (ci, fs), some (t, sl) => if len = 1 ∧ (ci = 4 ∨ ci = 6) ∧ t = zacl ci ∧ (0 ≤ j.toInt ∧ j.toInt < sl.length) then some (zgo (pc + 1) ls rest (w.set o (t, sl.set j.toNatClampNeg (.ref q)))) else none
      | _, _ => none
    | _ => none
  | .arraylength => match st with
    | .ref o :: rest => match w[o]? with
      | some (t, sl) => if len = 1 ∧ 20 ≤ t ∧ t ≤ 23 then some (zgo (pc + 1) ls (.int (Int32.ofNat sl.length) :: rest) w) else none
      | none => none
    | _ => none
  | .new ix => match zkx M.2.2.2.2 ix with
    | some ci => if len = 3 ∧ w.length < zlim then some (zgo (pc + 3) ls (.ref w.length :: st) (w ++ [(ci, zblank ci)])) else none
    | none => none
  | .newarray at_ => match st with
    | .int n :: rest => if len = 2 ∧ ¬ n < 0 ∧ n.toNatClampNeg ≤ 100000 ∧ w.length < zlim then (if at_ = .int then some (zgo (pc + 2) ls (.ref w.length :: rest) (w ++ [(20, List.replicate n.toNatClampNeg (.int 0))])) else if at_ = .boolean then some (zgo (pc + 2) ls (.ref w.length :: rest) (w ++ [(21, List.replicate n.toNatClampNeg (.int 0))])) else none) else none
    | _ => none
  | .anewarray ix => match st, zkx M.2.2.2.2 ix with
    | .int n :: rest, some ci => if len = 3 ∧ ¬ n < 0 ∧ n.toNatClampNeg ≤ 100000 ∧ w.length < zlim ∧ (ci = 4 ∨ ci = 6) then some (zgo (pc + 3) ls (.ref w.length :: rest) (w ++ [(zacl ci, List.replicate n.toNatClampNeg .null)])) else none
    | _, _ => none
  | .invokespecial ix => match zmx M.2.2.2.2 ix with
    | some (j, kd) => if len = 3 ∧ kd = 2 then (if j = 1000 then (match st with
        | .ref o :: rest => if zcat rest ≤ 8 then some (zgo (pc + 3) ls rest w) else none
        | _ => none) else (match zpms[j]?, zna[j]? with
        | some N, some n => match st.drop n with
          | .ref o :: rest => if N.1.name = "<init>" ∧ N.2.2.2.1 = none ∧ (st.take n).length = n ∧ zcat rest ≤ 8 then some (.inr (.inr (j, .ref o :: (st.take n).reverse, rest))) else none
          | _ => none
        | _, _ => none)) else none
    | none => none
  | .return_ => if len = 1 ∧ st = [] ∧ M.2.2.2.1 = none then some (.inr (.inl none)) else none
  | _ => none
theorem zstF_ok {L : Nat} {xs : Nat → Int32} {M : zPM} {i : Instr} {len pc : Nat} {ls : zL} {st : List Value} {w : zW} {sr : zSR} (h : zstF M i len pc ls st w = some sr) : zStep L xs M i len pc ls st w sr := by
  unfold zstF at h
  split at h
  · split at h
    · rename_i v hv
      split at h
      · rename_i hc; cases h; exact ⟨hc.1, v, hv, hc.2, rfl⟩
      · cases h
    · cases h
  · split at h
    · rename_i x hv
      split at h
      · rename_i hc; cases h; exact ⟨hc, x, hv, rfl⟩
      · cases h
    · cases h
  · split at h
    · rename_i hc; cases h; exact ⟨hc, rfl⟩
    · cases h
  · split at h
    · rename_i hc; cases h; exact ⟨hc, rfl⟩
    · cases h
  · split at h
    · rename_i hc; cases h; exact ⟨hc, rfl⟩
    · cases h
  · split at h
    · rename_i x rest
      split at h
      · rename_i hc; cases h; exact ⟨hc.1, x, rest, rfl, hc.2.1, hc.2.2, rfl⟩
      · cases h
    · cases h
  · split at h
    · rename_i v rest
      split at h
      · rename_i hc; cases h; exact ⟨hc.1, v, rest, rfl, hc.2.1, hc.2.2.1, hc.2.2.2, rfl⟩
      · cases h
    · cases h
  · split at h
    · rename_i x hv
      split at h
      · rename_i hc; cases h; exact ⟨hc.1, x, hv, hc.2, rfl⟩
      · cases h
    · cases h
  · split at h
    · rename_i v rest
      split at h
      · rename_i hc; cases h; exact ⟨hc.1, v, rest, rfl, hc.2, rfl⟩
      · cases h
    · cases h
  · split at h
    · rename_i x rest
      split at h
      · rename_i hc
        have ht := (Int.toNat_of_nonneg hc.2).symm
        split at h
        · rename_i h0; cases h; exact ⟨hc.1, x, rest, _, rfl, ht, Or.inl ⟨h0, rfl⟩⟩
        · rename_i h0; cases h; exact ⟨hc.1, x, rest, _, rfl, ht, Or.inr ⟨h0, rfl⟩⟩
      · cases h
    · cases h
  · split at h
    · rename_i y x rest
      split at h
      · rename_i hc
        have ht := (Int.toNat_of_nonneg hc.2).symm
        split at h
        · rename_i h0; cases h; exact ⟨hc.1, x, y, rest, _, rfl, ht, Or.inl ⟨h0, rfl⟩⟩
        · rename_i h0; cases h; exact ⟨hc.1, x, y, rest, _, rfl, ht, Or.inr ⟨h0, rfl⟩⟩
      · cases h
    · cases h
  · split at h
    · rename_i hc; cases h; exact ⟨hc.1, _, (Int.toNat_of_nonneg hc.2).symm, rfl⟩
    · cases h
  · split at h
    · rename_i o rest
      split at h
      · rename_i ci k t fs h1 h2
        split at h
        · rename_i v hv
          split at h
          · rename_i hc; obtain ⟨hc1, rfl⟩ := hc; cases h; exact ⟨hc1, o, rest, _, k, fs, v, rfl, h1, h2, hv, rfl⟩
          · cases h
        · cases h
      · cases h
    · cases h
  · split at h
    · rename_i v o rest
      split at h
      · rename_i ci k t fs h1 h2
        split at h
        · rename_i hc; obtain ⟨hc1, rfl, hc2, hc3, hc4⟩ := hc; cases h; exact ⟨hc1, v, o, rest, _, k, fs, rfl, h1, h2, hc2, hc3, hc4, rfl⟩
        · cases h
      · cases h
    · cases h
  · split at h
    · rename_i q j o rest
      split at h
      · rename_i ci fs t sl h1 h2
        split at h
        · rename_i hc; obtain ⟨hc1, hc2, rfl, hc3⟩ := hc; cases h; exact ⟨hc1, q, j, o, rest, _, sl, ci, fs, rfl, hc2, rfl, h1, h2, vp_in_iff.mpr hc3, rfl⟩
        · cases h
      · cases h
    · cases h
  · split at h
    · rename_i o rest
      split at h
      · rename_i t sl h1
        split at h
        · rename_i hc; cases h; exact ⟨hc.1, o, rest, rfl, Or.inl ⟨t, sl, h1, hc.2.1, hc.2.2, rfl⟩⟩
        · cases h
      · cases h
    · cases h
  · split at h
    · rename_i ci h1
      split at h
      · rename_i hc; cases h; exact ⟨hc.1, ci, h1, hc.2, rfl⟩
      · cases h
    · cases h
  · split at h
    · rename_i n rest
      split at h
      · rename_i hc
        split at h
        · rename_i ha; cases h; exact ⟨hc.1, n, rest, 20, rfl, hc.2.1, hc.2.2.1, Or.inl ⟨ha, rfl⟩, hc.2.2.2, rfl⟩
        · split at h
          · rename_i ha; cases h; exact ⟨hc.1, n, rest, 21, rfl, hc.2.1, hc.2.2.1, Or.inr ⟨ha, rfl⟩, hc.2.2.2, rfl⟩
          · cases h
      · cases h
    · cases h
  · split at h
    · rename_i n rest ci h1
      split at h
      · rename_i hc; cases h; exact ⟨hc.1, n, rest, ci, rfl, hc.2.1, hc.2.2.1, h1, hc.2.2.2.2, hc.2.2.2.1, rfl⟩
      · cases h
    · cases h
  · split at h
    · rename_i j kd h1
      split at h
      · rename_i hc
        obtain ⟨hc1, rfl⟩ := hc
        split at h
        · rename_i hj
          subst hj
          split at h
          · rename_i o rest
            split at h
            · rename_i hk; cases h; exact ⟨hc1, Or.inl ⟨o, rest, h1, rfl, hk, rfl⟩⟩
            · cases h
          · cases h
        · split at h
          · rename_i N n h2 h3
            split at h
            · rename_i o rest hd
              split at h
              · rename_i hk
                cases h
                refine ⟨hc1, Or.inr ⟨j, (st.take n).reverse, o, rest, N, h1, h2, by rw [List.length_reverse, hk.2.2.1]; exact h3, hk.1, hk.2.1, ?_, hk.2.2.2, rfl⟩⟩
                rw [List.reverse_reverse, ← hd, List.take_append_drop]
              · cases h
            · cases h
          · cases h
      · cases h
    · cases h
  · split at h
    · rename_i hc; cases h; exact ⟨hc.1, hc.2.1, hc.2.2, rfl⟩
    · cases h
  · cases h
def zrunF (E : Nat → List Value → zW → Option (Option Value × zW)) (M : zPM) : Nat → Nat → zL → List Value → zW → Option (Option Value × zW)
  | 0, _, _, _, _ => none
  | n + 1, pc, ls, st, w => match decode M.2.1 pc with
    | .ok (i, len) => match zstF M i len pc ls st w with
      | some (.inl (pc2, ls2, st2, w2)) => zrunF E M n pc2 ls2 st2 w2
      | some (.inr (.inl v)) => some (v, w)
      | some (.inr (.inr (j, As, rest))) => match E j As w with
        | some (v, w2) => zrunF E M n (pc + len) ls (v.toList ++ rest) w2
        | none => none
      | none => none
    | .error _ => none
def zevF : Nat → Nat → List Value → zW → Option (Option Value × zW)
  | 0, _, _, _ => none
  | d + 1, j, As, w => match zpms[j]? with
    | some M => if M.2.2.2.2 ≠ 99 ∧ (zargs As).length ≤ M.2.2.1 then zrunF (zevF d) M 1000 0 (zini M.2.2.1 As) [] w else none
    | none => none
theorem zrunF_ok {L : Nat} {xs : Nat → Int32} {E : Nat → List Value → zW → Option (Option Value × zW)} {E2 : Nat → List Value → zW → Option Value → zW → Prop} (hE : ∀ j As w v w2, E j As w = some (v, w2) → E2 j As w v w2) {M : zPM} {r : Option Value} {w' : zW} : ∀ (n pc : Nat) (ls : zL) (st : List Value) (w : zW), zrunF E M n pc ls st w = some (r, w') → zRun L xs E2 M n pc ls st w r w' := by
  intro n
  induction n with
  | zero => intro pc ls st w h; cases h
  | succ n ih =>
    intro pc ls st w h
    unfold zrunF at h
    split at h
    · rename_i i len hd
      split at h
      · rename_i pc2 ls2 st2 w2 hs
        exact ⟨i, len, _, hd, zstF_ok hs, ih _ _ _ _ h⟩
      · rename_i v hs
        cases h
        exact ⟨i, len, _, hd, zstF_ok hs, rfl, rfl⟩
      · rename_i j As rest hs
        split at h
        · rename_i v w2 he
          exact ⟨i, len, _, hd, zstF_ok hs, v, w2, hE _ _ _ _ _ he, ih _ _ _ _ h⟩
        · cases h
      · cases h
    · cases h
theorem zevF_ok {L : Nat} {xs : Nat → Int32} : ∀ (d j : Nat) (As : List Value) (w : zW) (v : Option Value) (w2 : zW), zevF d j As w = some (v, w2) → zEv L xs d j As w v w2
  | 0, _, _, _, _, _, h => by cases h
  | d + 1, j, As, w, v, w2, h => by
    unfold zevF at h
    split at h
    · rename_i M hM
      split at h
      · rename_i hc
        exact Or.inr (Or.inr ⟨M, 1000, hM, hc.1, hc.2, zrunF_ok (fun j As w v w2 h => zevF_ok d j As w v w2 h) _ _ _ _ _ h⟩)
      · cases h
    · cases h
/-- a run up to a place -/
def zpreF (E : Nat → List Value → zW → Option (Option Value × zW)) (M : zPM) (stop : Nat) : Nat → Nat → zL → List Value → zW → Option (zL × List Value × zW)
  | 0, _, _, _, _ => none
  | n + 1, pc, ls, st, w => if pc = stop then some (ls, st, w) else match decode M.2.1 pc with
    | .ok (i, len) => match zstF M i len pc ls st w with
      | some (.inl (pc2, ls2, st2, w2)) => zpreF E M stop n pc2 ls2 st2 w2
      | some (.inr (.inl v)) => none
      | some (.inr (.inr (j, As, rest))) => match E j As w with
        | some (v, w2) => zpreF E M stop n (pc + len) ls (v.toList ++ rest) w2
        | none => none
      | none => none
    | .error _ => none
theorem zpreF_ok {L : Nat} {xs : Nat → Int32} {E : Nat → List Value → zW → Option (Option Value × zW)} {E2 : Nat → List Value → zW → Option Value → zW → Prop} (hE : ∀ j As w v w2, E j As w = some (v, w2) → E2 j As w v w2) {M : zPM} {stop k : Nat} {ls1 : zL} {st1 : List Value} {w1 : zW} {r : Option Value} {w' : zW} (hk : zRun L xs E2 M k stop ls1 st1 w1 r w') : ∀ (n pc : Nat) (ls : zL) (st : List Value) (w : zW), zpreF E M stop n pc ls st w = some (ls1, st1, w1) → ∃ k2, zRun L xs E2 M k2 pc ls st w r w' := by
  intro n
  induction n with
  | zero => intro pc ls st w h; cases h
  | succ n ih =>
    intro pc ls st w h
    unfold zpreF at h
    split at h
    · rename_i hp
      subst hp
      cases h
      exact ⟨k, hk⟩
    · split at h
      · rename_i i len hd
        split at h
        · rename_i pc2 ls2 st2 w2 hs
          obtain ⟨k2, h2⟩ := ih _ _ _ _ h
          exact ⟨k2 + 1, i, len, _, hd, zstF_ok hs, h2⟩
        · cases h
        · rename_i j As rest hs
          split at h
          · rename_i v w2 he
            obtain ⟨k2, h2⟩ := ih _ _ _ _ h
            exact ⟨k2 + 1, i, len, _, hd, zstF_ok hs, v, w2, hE _ _ _ _ _ he, h2⟩
          · cases h
        · cases h
      · cases h
end
section
def zGw (L : Nat) (xs : Nat → Int32) (d : Nat) (M : zPM) (pc : Nat) (ls : zL) (st : List Value) (w : zW) (r : Option Value) (w' : zW) : Prop := ∃ n, zRun L xs (zEv L xs d) M n pc ls st w r w'
section ZGW
variable {L : Nat} {xs : Nat → Int32} {d : Nat} {M : zPM} {pc : Nat} {ls ls1 : zL} {st st1 : List Value} {w w1 w' : zW} {r : Option Value}
theorem zgw_pre {E : Nat → List Value → zW → Option (Option Value × zW)} {stop n : Nat} (hE : ∀ j As w v w2, E j As w = some (v, w2) → zEv L xs d j As w v w2) (h : zpreF E M stop n pc ls st w = some (ls1, st1, w1)) (kk : zGw L xs d M stop ls1 st1 w1 r w') : zGw L xs d M pc ls st w r w' := by
  obtain ⟨k, hk⟩ := kk
  exact zpreF_ok hE hk _ _ _ _ _ h
theorem zgw_end {E : Nat → List Value → zW → Option (Option Value × zW)} {n : Nat} (hE : ∀ j As w v w2, E j As w = some (v, w2) → zEv L xs d j As w v w2) (h : zrunF E M n pc ls st w = some (r, w')) : zGw L xs d M pc ls st w r w' := ⟨n, zrunF_ok hE _ _ _ _ _ h⟩
theorem zgw_new {ix j o : Nat} {N : zPM} {rest : List Value} (he : zEv L xs d j [.ref o] w none w1) (hst : st = .ref o :: rest) (hd : decode M.2.1 pc = .ok (.invokespecial ix, 3)) (hm : zmx M.2.2.2.2 ix = some (j, 2)) (hN : zpms[j]? = some N) (hna : zna[j]? = some 0) (hret : N.2.2.2.1 = none) (hname : N.1.name = "<init>" ∧ zcat rest ≤ 8) (kk : zGw L xs d M (pc + 3) ls rest w1 r w') : zGw L xs d M pc ls st w r w' := by
  obtain ⟨k, hk⟩ := kk
  exact ⟨k + 1, _, 3, _, hd, ⟨rfl, Or.inr ⟨j, [], o, rest, N, hm, hN, hna, hname.1, hret, hst, hname.2, rfl⟩⟩, none, w1, he, hk⟩
theorem zgw_ev {j : Nat} {As : List Value} (hM : zpms[j]? = some M) (ho : M.2.2.2.2 ≠ 99) (hl : (zargs As).length ≤ M.2.2.1) (hi : zini M.2.2.1 As = ls) (kk : zGw L xs d M 0 ls [] w r w') : zEv L xs (d + 1) j As w r w' := by
  obtain ⟨n, h⟩ := kk
  exact Or.inr (Or.inr ⟨M, n, hM, ho, hl, by rw [hi]; exact h⟩)
end ZGW
def zw0 : zW := [
  ]
def zw1 : zW := [
  (0, [.null, .null, .null, .null, .null, .null, .null, .null, .null])]
set_option maxRecDepth 1000000 in
theorem zck0 : zpreF (zevF 10) zlawM 4 3 0 [some (.ref zSCR), none, none, none] [] zw0 = some ([some (.ref zSCR), none, none, none], [.ref 0, .ref 0], zw1) := by decide +kernel
abbrev zpC0 : zPM := (⟨"AdjectiveCoupons", "<init>", "()V"⟩, prog_1_method_1_code, 1, (Option.none : Option Jvm.ClassFile.FieldType), 0)
set_option maxRecDepth 100000 in
theorem zpC0_get : zpms[0]? = some zpC0 := rfl
def zw2 : zW := [
  (0, [.ref 1, .null, .null, .null, .null, .null, .null, .null, .null]),
  (1, [.ref 2, .int 0, .int 0, .int 0, .int 0]),
  (2, [.ref 3]),
  (20, List.replicate 160 (.int 0)),
  (3, [.int 0, .int 0, .int 0, .int 9, .int 0, .ref 5, .ref 7, .ref 9, .ref 11, .ref 13, .ref 15, .ref 17]),
  (2, [.ref 6]),
  (20, List.replicate 10 (.int 0)),
  (2, [.ref 8]),
  (20, List.replicate 10 (.int 0)),
  (2, [.ref 10]),
  (20, List.replicate 4 (.int 0)),
  (2, [.ref 12]),
  (20, List.replicate 4 (.int 0)),
  (2, [.ref 14]),
  (20, List.replicate 6 (.int 0)),
  (2, [.ref 16]),
  (20, List.replicate 6 (.int 0)),
  (2, [.ref 18]),
  (20, List.replicate 6 (.int 0))]
set_option maxRecDepth 1000000 in
theorem zck1 : zpreF (zevF 9) zpC0 23 12 0 [some (.ref 0)] [] zw1 = some ([some (.ref 0)], [.ref 4, .ref 0], zw2) := by decide +kernel
def zw3 : zW := [
  (0, [.ref 1, .ref 4, .null, .null, .null, .null, .null, .null, .null]),
  (1, [.ref 2, .int 0, .int 0, .int 0, .int 0]),
  (2, [.ref 3]),
  (20, List.replicate 160 (.int 0)),
  (3, [.int 0, .int 0, .int 0, .int 9, .int 0, .ref 5, .ref 7, .ref 9, .ref 11, .ref 13, .ref 15, .ref 17]),
  (2, [.ref 6]),
  (20, List.replicate 10 (.int 0)),
  (2, [.ref 8]),
  (20, List.replicate 10 (.int 0)),
  (2, [.ref 10]),
  (20, List.replicate 4 (.int 0)),
  (2, [.ref 12]),
  (20, List.replicate 4 (.int 0)),
  (2, [.ref 14]),
  (20, List.replicate 6 (.int 0)),
  (2, [.ref 16]),
  (20, List.replicate 6 (.int 0)),
  (2, [.ref 18]),
  (20, List.replicate 6 (.int 0))]
set_option maxRecDepth 1000000 in
theorem zck2 : zpreF (zevF 9) zpC0 26 2 23 [some (.ref 0)] [.ref 4, .ref 0] zw2 = some ([some (.ref 0)], [], zw3) := by decide +kernel
def zw4 : zW := [
  (0, [.ref 1, .ref 4, .null, .null, .null, .null, .null, .null, .null]),
  (1, [.ref 2, .int 0, .int 0, .int 0, .int 0]),
  (2, [.ref 3]),
  (20, List.replicate 160 (.int 0)),
  (3, [.int 0, .int 0, .int 0, .int 9, .int 0, .ref 5, .ref 7, .ref 9, .ref 11, .ref 13, .ref 15, .ref 17]),
  (2, [.ref 6]),
  (20, List.replicate 10 (.int 0)),
  (2, [.ref 8]),
  (20, List.replicate 10 (.int 0)),
  (2, [.ref 10]),
  (20, List.replicate 4 (.int 0)),
  (2, [.ref 12]),
  (20, List.replicate 4 (.int 0)),
  (2, [.ref 14]),
  (20, List.replicate 6 (.int 0)),
  (2, [.ref 16]),
  (20, List.replicate 6 (.int 0)),
  (2, [.ref 18]),
  (20, List.replicate 6 (.int 0)),
  (3, [.int 0, .int 0, .int 0, .int 9, .int 0, .ref 20, .ref 22, .ref 24, .ref 26, .ref 28, .ref 30, .ref 32]),
  (2, [.ref 21]),
  (20, List.replicate 10 (.int 0)),
  (2, [.ref 23]),
  (20, List.replicate 10 (.int 0)),
  (2, [.ref 25]),
  (20, List.replicate 4 (.int 0)),
  (2, [.ref 27]),
  (20, List.replicate 4 (.int 0)),
  (2, [.ref 29]),
  (20, List.replicate 6 (.int 0)),
  (2, [.ref 31]),
  (20, List.replicate 6 (.int 0)),
  (2, [.ref 33]),
  (20, List.replicate 6 (.int 0))]
set_option maxRecDepth 1000000 in
theorem zck3 : zpreF (zevF 9) zpC0 34 5 26 [some (.ref 0)] [] zw3 = some ([some (.ref 0)], [.ref 19, .ref 0], zw4) := by decide +kernel
def zw5 : zW := [
  (0, [.ref 1, .ref 4, .ref 19, .null, .null, .null, .null, .null, .null]),
  (1, [.ref 2, .int 0, .int 0, .int 0, .int 0]),
  (2, [.ref 3]),
  (20, List.replicate 160 (.int 0)),
  (3, [.int 0, .int 0, .int 0, .int 9, .int 0, .ref 5, .ref 7, .ref 9, .ref 11, .ref 13, .ref 15, .ref 17]),
  (2, [.ref 6]),
  (20, List.replicate 10 (.int 0)),
  (2, [.ref 8]),
  (20, List.replicate 10 (.int 0)),
  (2, [.ref 10]),
  (20, List.replicate 4 (.int 0)),
  (2, [.ref 12]),
  (20, List.replicate 4 (.int 0)),
  (2, [.ref 14]),
  (20, List.replicate 6 (.int 0)),
  (2, [.ref 16]),
  (20, List.replicate 6 (.int 0)),
  (2, [.ref 18]),
  (20, List.replicate 6 (.int 0)),
  (3, [.int 0, .int 0, .int 0, .int 9, .int 0, .ref 20, .ref 22, .ref 24, .ref 26, .ref 28, .ref 30, .ref 32]),
  (2, [.ref 21]),
  (20, List.replicate 10 (.int 0)),
  (2, [.ref 23]),
  (20, List.replicate 10 (.int 0)),
  (2, [.ref 25]),
  (20, List.replicate 4 (.int 0)),
  (2, [.ref 27]),
  (20, List.replicate 4 (.int 0)),
  (2, [.ref 29]),
  (20, List.replicate 6 (.int 0)),
  (2, [.ref 31]),
  (20, List.replicate 6 (.int 0)),
  (2, [.ref 33]),
  (20, List.replicate 6 (.int 0))]
set_option maxRecDepth 1000000 in
theorem zck4 : zpreF (zevF 9) zpC0 37 2 34 [some (.ref 0)] [.ref 19, .ref 0] zw4 = some ([some (.ref 0)], [], zw5) := by decide +kernel
def zw6 : zW := [
  (0, [.ref 1, .ref 4, .ref 19, .null, .null, .null, .null, .null, .null]),
  (1, [.ref 2, .int 0, .int 0, .int 0, .int 0]),
  (2, [.ref 3]),
  (20, List.replicate 160 (.int 0)),
  (3, [.int 0, .int 0, .int 0, .int 9, .int 0, .ref 5, .ref 7, .ref 9, .ref 11, .ref 13, .ref 15, .ref 17]),
  (2, [.ref 6]),
  (20, List.replicate 10 (.int 0)),
  (2, [.ref 8]),
  (20, List.replicate 10 (.int 0)),
  (2, [.ref 10]),
  (20, List.replicate 4 (.int 0)),
  (2, [.ref 12]),
  (20, List.replicate 4 (.int 0)),
  (2, [.ref 14]),
  (20, List.replicate 6 (.int 0)),
  (2, [.ref 16]),
  (20, List.replicate 6 (.int 0)),
  (2, [.ref 18]),
  (20, List.replicate 6 (.int 0)),
  (3, [.int 0, .int 0, .int 0, .int 9, .int 0, .ref 20, .ref 22, .ref 24, .ref 26, .ref 28, .ref 30, .ref 32]),
  (2, [.ref 21]),
  (20, List.replicate 10 (.int 0)),
  (2, [.ref 23]),
  (20, List.replicate 10 (.int 0)),
  (2, [.ref 25]),
  (20, List.replicate 4 (.int 0)),
  (2, [.ref 27]),
  (20, List.replicate 4 (.int 0)),
  (2, [.ref 29]),
  (20, List.replicate 6 (.int 0)),
  (2, [.ref 31]),
  (20, List.replicate 6 (.int 0)),
  (2, [.ref 33]),
  (20, List.replicate 6 (.int 0)),
  (4, [.int 0, .ref 35, .ref 37, .ref 39, .ref 41, .ref 43, .ref 45]),
  (2, [.ref 36]),
  (20, List.replicate 4 (.int 0)),
  (2, [.ref 38]),
  (20, List.replicate 4 (.int 0)),
  (2, [.ref 40]),
  (20, List.replicate 4 (.int 0)),
  (2, [.ref 42]),
  (20, List.replicate 4 (.int 0)),
  (2, [.ref 44]),
  (20, List.replicate 40 (.int 0)),
  (2, [.ref 46]),
  (20, List.replicate 16 (.int 0))]
set_option maxRecDepth 1000000 in
theorem zck5 : zpreF (zevF 9) zpC0 45 5 37 [some (.ref 0)] [] zw5 = some ([some (.ref 0)], [.ref 34, .ref 0], zw6) := by decide +kernel
def zw7 : zW := [
  (0, [.ref 1, .ref 4, .ref 19, .ref 34, .null, .null, .null, .null, .null]),
  (1, [.ref 2, .int 0, .int 0, .int 0, .int 0]),
  (2, [.ref 3]),
  (20, List.replicate 160 (.int 0)),
  (3, [.int 0, .int 0, .int 0, .int 9, .int 0, .ref 5, .ref 7, .ref 9, .ref 11, .ref 13, .ref 15, .ref 17]),
  (2, [.ref 6]),
  (20, List.replicate 10 (.int 0)),
  (2, [.ref 8]),
  (20, List.replicate 10 (.int 0)),
  (2, [.ref 10]),
  (20, List.replicate 4 (.int 0)),
  (2, [.ref 12]),
  (20, List.replicate 4 (.int 0)),
  (2, [.ref 14]),
  (20, List.replicate 6 (.int 0)),
  (2, [.ref 16]),
  (20, List.replicate 6 (.int 0)),
  (2, [.ref 18]),
  (20, List.replicate 6 (.int 0)),
  (3, [.int 0, .int 0, .int 0, .int 9, .int 0, .ref 20, .ref 22, .ref 24, .ref 26, .ref 28, .ref 30, .ref 32]),
  (2, [.ref 21]),
  (20, List.replicate 10 (.int 0)),
  (2, [.ref 23]),
  (20, List.replicate 10 (.int 0)),
  (2, [.ref 25]),
  (20, List.replicate 4 (.int 0)),
  (2, [.ref 27]),
  (20, List.replicate 4 (.int 0)),
  (2, [.ref 29]),
  (20, List.replicate 6 (.int 0)),
  (2, [.ref 31]),
  (20, List.replicate 6 (.int 0)),
  (2, [.ref 33]),
  (20, List.replicate 6 (.int 0)),
  (4, [.int 0, .ref 35, .ref 37, .ref 39, .ref 41, .ref 43, .ref 45]),
  (2, [.ref 36]),
  (20, List.replicate 4 (.int 0)),
  (2, [.ref 38]),
  (20, List.replicate 4 (.int 0)),
  (2, [.ref 40]),
  (20, List.replicate 4 (.int 0)),
  (2, [.ref 42]),
  (20, List.replicate 4 (.int 0)),
  (2, [.ref 44]),
  (20, List.replicate 40 (.int 0)),
  (2, [.ref 46]),
  (20, List.replicate 16 (.int 0))]
set_option maxRecDepth 1000000 in
theorem zck6 : zpreF (zevF 9) zpC0 48 2 45 [some (.ref 0)] [.ref 34, .ref 0] zw6 = some ([some (.ref 0)], [], zw7) := by decide +kernel
def zw8 : zW := [
  (0, [.ref 1, .ref 4, .ref 19, .ref 34, .null, .null, .null, .null, .null]),
  (1, [.ref 2, .int 0, .int 0, .int 0, .int 0]),
  (2, [.ref 3]),
  (20, List.replicate 160 (.int 0)),
  (3, [.int 0, .int 0, .int 0, .int 9, .int 0, .ref 5, .ref 7, .ref 9, .ref 11, .ref 13, .ref 15, .ref 17]),
  (2, [.ref 6]),
  (20, List.replicate 10 (.int 0)),
  (2, [.ref 8]),
  (20, List.replicate 10 (.int 0)),
  (2, [.ref 10]),
  (20, List.replicate 4 (.int 0)),
  (2, [.ref 12]),
  (20, List.replicate 4 (.int 0)),
  (2, [.ref 14]),
  (20, List.replicate 6 (.int 0)),
  (2, [.ref 16]),
  (20, List.replicate 6 (.int 0)),
  (2, [.ref 18]),
  (20, List.replicate 6 (.int 0)),
  (3, [.int 0, .int 0, .int 0, .int 9, .int 0, .ref 20, .ref 22, .ref 24, .ref 26, .ref 28, .ref 30, .ref 32]),
  (2, [.ref 21]),
  (20, List.replicate 10 (.int 0)),
  (2, [.ref 23]),
  (20, List.replicate 10 (.int 0)),
  (2, [.ref 25]),
  (20, List.replicate 4 (.int 0)),
  (2, [.ref 27]),
  (20, List.replicate 4 (.int 0)),
  (2, [.ref 29]),
  (20, List.replicate 6 (.int 0)),
  (2, [.ref 31]),
  (20, List.replicate 6 (.int 0)),
  (2, [.ref 33]),
  (20, List.replicate 6 (.int 0)),
  (4, [.int 0, .ref 35, .ref 37, .ref 39, .ref 41, .ref 43, .ref 45]),
  (2, [.ref 36]),
  (20, List.replicate 4 (.int 0)),
  (2, [.ref 38]),
  (20, List.replicate 4 (.int 0)),
  (2, [.ref 40]),
  (20, List.replicate 4 (.int 0)),
  (2, [.ref 42]),
  (20, List.replicate 4 (.int 0)),
  (2, [.ref 44]),
  (20, List.replicate 40 (.int 0)),
  (2, [.ref 46]),
  (20, List.replicate 16 (.int 0)),
  (5, [.null, .null, .int 0, .int 0, .int 0])]
set_option maxRecDepth 1000000 in
theorem zck7 : zpreF (zevF 9) zpC0 53 4 48 [some (.ref 0)] [] zw7 = some ([some (.ref 0)], [.ref 47, .ref 47, .ref 0], zw8) := by decide +kernel
abbrev zpC6 : zPM := (⟨"AdjectiveCoupons$Past", "<init>", "()V"⟩, prog_4_method_1_code, 2, (Option.none : Option Jvm.ClassFile.FieldType), 5)
set_option maxRecDepth 100000 in
theorem zpC6_get : zpms[6]? = some zpC6 := rfl
def zw9 : zW := [
  (0, [.ref 1, .ref 4, .ref 19, .ref 34, .null, .null, .null, .null, .null]),
  (1, [.ref 2, .int 0, .int 0, .int 0, .int 0]),
  (2, [.ref 3]),
  (20, List.replicate 160 (.int 0)),
  (3, [.int 0, .int 0, .int 0, .int 9, .int 0, .ref 5, .ref 7, .ref 9, .ref 11, .ref 13, .ref 15, .ref 17]),
  (2, [.ref 6]),
  (20, List.replicate 10 (.int 0)),
  (2, [.ref 8]),
  (20, List.replicate 10 (.int 0)),
  (2, [.ref 10]),
  (20, List.replicate 4 (.int 0)),
  (2, [.ref 12]),
  (20, List.replicate 4 (.int 0)),
  (2, [.ref 14]),
  (20, List.replicate 6 (.int 0)),
  (2, [.ref 16]),
  (20, List.replicate 6 (.int 0)),
  (2, [.ref 18]),
  (20, List.replicate 6 (.int 0)),
  (3, [.int 0, .int 0, .int 0, .int 9, .int 0, .ref 20, .ref 22, .ref 24, .ref 26, .ref 28, .ref 30, .ref 32]),
  (2, [.ref 21]),
  (20, List.replicate 10 (.int 0)),
  (2, [.ref 23]),
  (20, List.replicate 10 (.int 0)),
  (2, [.ref 25]),
  (20, List.replicate 4 (.int 0)),
  (2, [.ref 27]),
  (20, List.replicate 4 (.int 0)),
  (2, [.ref 29]),
  (20, List.replicate 6 (.int 0)),
  (2, [.ref 31]),
  (20, List.replicate 6 (.int 0)),
  (2, [.ref 33]),
  (20, List.replicate 6 (.int 0)),
  (4, [.int 0, .ref 35, .ref 37, .ref 39, .ref 41, .ref 43, .ref 45]),
  (2, [.ref 36]),
  (20, List.replicate 4 (.int 0)),
  (2, [.ref 38]),
  (20, List.replicate 4 (.int 0)),
  (2, [.ref 40]),
  (20, List.replicate 4 (.int 0)),
  (2, [.ref 42]),
  (20, List.replicate 4 (.int 0)),
  (2, [.ref 44]),
  (20, List.replicate 40 (.int 0)),
  (2, [.ref 46]),
  (20, List.replicate 16 (.int 0)),
  (5, [.ref 48, .ref 49, .int 0, .int 0, .int 0]),
  (22, [.null, .null, .null, .null, .null, .null, .null, .null]),
  (22, [.null, .null]),
  (4, [.int 0, .ref 51, .ref 53, .ref 55, .ref 57, .ref 59, .ref 61]),
  (2, [.ref 52]),
  (20, List.replicate 4 (.int 0)),
  (2, [.ref 54]),
  (20, List.replicate 4 (.int 0)),
  (2, [.ref 56]),
  (20, List.replicate 4 (.int 0)),
  (2, [.ref 58]),
  (20, List.replicate 4 (.int 0)),
  (2, [.ref 60]),
  (20, List.replicate 40 (.int 0)),
  (2, [.ref 62]),
  (20, List.replicate 16 (.int 0))]
set_option maxRecDepth 1000000 in
theorem zck8 : zpreF (zevF 8) zpC6 44 24 0 [some (.ref 47), none] [] zw8 = some ([some (.ref 47), some (.int 0)], [.ref 50, .int 0, .ref 48], zw9) := by decide +kernel
def zw10 : zW := [
  (0, [.ref 1, .ref 4, .ref 19, .ref 34, .null, .null, .null, .null, .null]),
  (1, [.ref 2, .int 0, .int 0, .int 0, .int 0]),
  (2, [.ref 3]),
  (20, List.replicate 160 (.int 0)),
  (3, [.int 0, .int 0, .int 0, .int 9, .int 0, .ref 5, .ref 7, .ref 9, .ref 11, .ref 13, .ref 15, .ref 17]),
  (2, [.ref 6]),
  (20, List.replicate 10 (.int 0)),
  (2, [.ref 8]),
  (20, List.replicate 10 (.int 0)),
  (2, [.ref 10]),
  (20, List.replicate 4 (.int 0)),
  (2, [.ref 12]),
  (20, List.replicate 4 (.int 0)),
  (2, [.ref 14]),
  (20, List.replicate 6 (.int 0)),
  (2, [.ref 16]),
  (20, List.replicate 6 (.int 0)),
  (2, [.ref 18]),
  (20, List.replicate 6 (.int 0)),
  (3, [.int 0, .int 0, .int 0, .int 9, .int 0, .ref 20, .ref 22, .ref 24, .ref 26, .ref 28, .ref 30, .ref 32]),
  (2, [.ref 21]),
  (20, List.replicate 10 (.int 0)),
  (2, [.ref 23]),
  (20, List.replicate 10 (.int 0)),
  (2, [.ref 25]),
  (20, List.replicate 4 (.int 0)),
  (2, [.ref 27]),
  (20, List.replicate 4 (.int 0)),
  (2, [.ref 29]),
  (20, List.replicate 6 (.int 0)),
  (2, [.ref 31]),
  (20, List.replicate 6 (.int 0)),
  (2, [.ref 33]),
  (20, List.replicate 6 (.int 0)),
  (4, [.int 0, .ref 35, .ref 37, .ref 39, .ref 41, .ref 43, .ref 45]),
  (2, [.ref 36]),
  (20, List.replicate 4 (.int 0)),
  (2, [.ref 38]),
  (20, List.replicate 4 (.int 0)),
  (2, [.ref 40]),
  (20, List.replicate 4 (.int 0)),
  (2, [.ref 42]),
  (20, List.replicate 4 (.int 0)),
  (2, [.ref 44]),
  (20, List.replicate 40 (.int 0)),
  (2, [.ref 46]),
  (20, List.replicate 16 (.int 0)),
  (5, [.ref 48, .ref 49, .int 0, .int 0, .int 0]),
  (22, [.ref 50, .null, .null, .null, .null, .null, .null, .null]),
  (22, [.null, .null]),
  (4, [.int 0, .ref 51, .ref 53, .ref 55, .ref 57, .ref 59, .ref 61]),
  (2, [.ref 52]),
  (20, List.replicate 4 (.int 0)),
  (2, [.ref 54]),
  (20, List.replicate 4 (.int 0)),
  (2, [.ref 56]),
  (20, List.replicate 4 (.int 0)),
  (2, [.ref 58]),
  (20, List.replicate 4 (.int 0)),
  (2, [.ref 60]),
  (20, List.replicate 40 (.int 0)),
  (2, [.ref 62]),
  (20, List.replicate 16 (.int 0))]
set_option maxRecDepth 1000000 in
theorem zck9 : zpreF (zevF 8) zpC6 45 2 44 [some (.ref 47), some (.int 0)] [.ref 50, .int 0, .ref 48] zw9 = some ([some (.ref 47), some (.int 0)], [], zw10) := by decide +kernel
def zw11 : zW := [
  (0, [.ref 1, .ref 4, .ref 19, .ref 34, .null, .null, .null, .null, .null]),
  (1, [.ref 2, .int 0, .int 0, .int 0, .int 0]),
  (2, [.ref 3]),
  (20, List.replicate 160 (.int 0)),
  (3, [.int 0, .int 0, .int 0, .int 9, .int 0, .ref 5, .ref 7, .ref 9, .ref 11, .ref 13, .ref 15, .ref 17]),
  (2, [.ref 6]),
  (20, List.replicate 10 (.int 0)),
  (2, [.ref 8]),
  (20, List.replicate 10 (.int 0)),
  (2, [.ref 10]),
  (20, List.replicate 4 (.int 0)),
  (2, [.ref 12]),
  (20, List.replicate 4 (.int 0)),
  (2, [.ref 14]),
  (20, List.replicate 6 (.int 0)),
  (2, [.ref 16]),
  (20, List.replicate 6 (.int 0)),
  (2, [.ref 18]),
  (20, List.replicate 6 (.int 0)),
  (3, [.int 0, .int 0, .int 0, .int 9, .int 0, .ref 20, .ref 22, .ref 24, .ref 26, .ref 28, .ref 30, .ref 32]),
  (2, [.ref 21]),
  (20, List.replicate 10 (.int 0)),
  (2, [.ref 23]),
  (20, List.replicate 10 (.int 0)),
  (2, [.ref 25]),
  (20, List.replicate 4 (.int 0)),
  (2, [.ref 27]),
  (20, List.replicate 4 (.int 0)),
  (2, [.ref 29]),
  (20, List.replicate 6 (.int 0)),
  (2, [.ref 31]),
  (20, List.replicate 6 (.int 0)),
  (2, [.ref 33]),
  (20, List.replicate 6 (.int 0)),
  (4, [.int 0, .ref 35, .ref 37, .ref 39, .ref 41, .ref 43, .ref 45]),
  (2, [.ref 36]),
  (20, List.replicate 4 (.int 0)),
  (2, [.ref 38]),
  (20, List.replicate 4 (.int 0)),
  (2, [.ref 40]),
  (20, List.replicate 4 (.int 0)),
  (2, [.ref 42]),
  (20, List.replicate 4 (.int 0)),
  (2, [.ref 44]),
  (20, List.replicate 40 (.int 0)),
  (2, [.ref 46]),
  (20, List.replicate 16 (.int 0)),
  (5, [.ref 48, .ref 49, .int 0, .int 0, .int 0]),
  (22, [.ref 50, .null, .null, .null, .null, .null, .null, .null]),
  (22, [.null, .null]),
  (4, [.int 0, .ref 51, .ref 53, .ref 55, .ref 57, .ref 59, .ref 61]),
  (2, [.ref 52]),
  (20, List.replicate 4 (.int 0)),
  (2, [.ref 54]),
  (20, List.replicate 4 (.int 0)),
  (2, [.ref 56]),
  (20, List.replicate 4 (.int 0)),
  (2, [.ref 58]),
  (20, List.replicate 4 (.int 0)),
  (2, [.ref 60]),
  (20, List.replicate 40 (.int 0)),
  (2, [.ref 62]),
  (20, List.replicate 16 (.int 0)),
  (4, [.int 0, .ref 64, .ref 66, .ref 68, .ref 70, .ref 72, .ref 74]),
  (2, [.ref 65]),
  (20, List.replicate 4 (.int 0)),
  (2, [.ref 67]),
  (20, List.replicate 4 (.int 0)),
  (2, [.ref 69]),
  (20, List.replicate 4 (.int 0)),
  (2, [.ref 71]),
  (20, List.replicate 4 (.int 0)),
  (2, [.ref 73]),
  (20, List.replicate 40 (.int 0)),
  (2, [.ref 75]),
  (20, List.replicate 16 (.int 0))]
set_option maxRecDepth 1000000 in
theorem zck10 : zpreF (zevF 8) zpC6 44 14 45 [some (.ref 47), some (.int 0)] [] zw10 = some ([some (.ref 47), some (.int 1)], [.ref 63, .int 1, .ref 48], zw11) := by decide +kernel
def zw12 : zW := [
  (0, [.ref 1, .ref 4, .ref 19, .ref 34, .null, .null, .null, .null, .null]),
  (1, [.ref 2, .int 0, .int 0, .int 0, .int 0]),
  (2, [.ref 3]),
  (20, List.replicate 160 (.int 0)),
  (3, [.int 0, .int 0, .int 0, .int 9, .int 0, .ref 5, .ref 7, .ref 9, .ref 11, .ref 13, .ref 15, .ref 17]),
  (2, [.ref 6]),
  (20, List.replicate 10 (.int 0)),
  (2, [.ref 8]),
  (20, List.replicate 10 (.int 0)),
  (2, [.ref 10]),
  (20, List.replicate 4 (.int 0)),
  (2, [.ref 12]),
  (20, List.replicate 4 (.int 0)),
  (2, [.ref 14]),
  (20, List.replicate 6 (.int 0)),
  (2, [.ref 16]),
  (20, List.replicate 6 (.int 0)),
  (2, [.ref 18]),
  (20, List.replicate 6 (.int 0)),
  (3, [.int 0, .int 0, .int 0, .int 9, .int 0, .ref 20, .ref 22, .ref 24, .ref 26, .ref 28, .ref 30, .ref 32]),
  (2, [.ref 21]),
  (20, List.replicate 10 (.int 0)),
  (2, [.ref 23]),
  (20, List.replicate 10 (.int 0)),
  (2, [.ref 25]),
  (20, List.replicate 4 (.int 0)),
  (2, [.ref 27]),
  (20, List.replicate 4 (.int 0)),
  (2, [.ref 29]),
  (20, List.replicate 6 (.int 0)),
  (2, [.ref 31]),
  (20, List.replicate 6 (.int 0)),
  (2, [.ref 33]),
  (20, List.replicate 6 (.int 0)),
  (4, [.int 0, .ref 35, .ref 37, .ref 39, .ref 41, .ref 43, .ref 45]),
  (2, [.ref 36]),
  (20, List.replicate 4 (.int 0)),
  (2, [.ref 38]),
  (20, List.replicate 4 (.int 0)),
  (2, [.ref 40]),
  (20, List.replicate 4 (.int 0)),
  (2, [.ref 42]),
  (20, List.replicate 4 (.int 0)),
  (2, [.ref 44]),
  (20, List.replicate 40 (.int 0)),
  (2, [.ref 46]),
  (20, List.replicate 16 (.int 0)),
  (5, [.ref 48, .ref 49, .int 0, .int 0, .int 0]),
  (22, [.ref 50, .ref 63, .null, .null, .null, .null, .null, .null]),
  (22, [.null, .null]),
  (4, [.int 0, .ref 51, .ref 53, .ref 55, .ref 57, .ref 59, .ref 61]),
  (2, [.ref 52]),
  (20, List.replicate 4 (.int 0)),
  (2, [.ref 54]),
  (20, List.replicate 4 (.int 0)),
  (2, [.ref 56]),
  (20, List.replicate 4 (.int 0)),
  (2, [.ref 58]),
  (20, List.replicate 4 (.int 0)),
  (2, [.ref 60]),
  (20, List.replicate 40 (.int 0)),
  (2, [.ref 62]),
  (20, List.replicate 16 (.int 0)),
  (4, [.int 0, .ref 64, .ref 66, .ref 68, .ref 70, .ref 72, .ref 74]),
  (2, [.ref 65]),
  (20, List.replicate 4 (.int 0)),
  (2, [.ref 67]),
  (20, List.replicate 4 (.int 0)),
  (2, [.ref 69]),
  (20, List.replicate 4 (.int 0)),
  (2, [.ref 71]),
  (20, List.replicate 4 (.int 0)),
  (2, [.ref 73]),
  (20, List.replicate 40 (.int 0)),
  (2, [.ref 75]),
  (20, List.replicate 16 (.int 0))]
set_option maxRecDepth 1000000 in
theorem zck11 : zpreF (zevF 8) zpC6 45 2 44 [some (.ref 47), some (.int 1)] [.ref 63, .int 1, .ref 48] zw11 = some ([some (.ref 47), some (.int 1)], [], zw12) := by decide +kernel
def zw13 : zW := [
  (0, [.ref 1, .ref 4, .ref 19, .ref 34, .null, .null, .null, .null, .null]),
  (1, [.ref 2, .int 0, .int 0, .int 0, .int 0]),
  (2, [.ref 3]),
  (20, List.replicate 160 (.int 0)),
  (3, [.int 0, .int 0, .int 0, .int 9, .int 0, .ref 5, .ref 7, .ref 9, .ref 11, .ref 13, .ref 15, .ref 17]),
  (2, [.ref 6]),
  (20, List.replicate 10 (.int 0)),
  (2, [.ref 8]),
  (20, List.replicate 10 (.int 0)),
  (2, [.ref 10]),
  (20, List.replicate 4 (.int 0)),
  (2, [.ref 12]),
  (20, List.replicate 4 (.int 0)),
  (2, [.ref 14]),
  (20, List.replicate 6 (.int 0)),
  (2, [.ref 16]),
  (20, List.replicate 6 (.int 0)),
  (2, [.ref 18]),
  (20, List.replicate 6 (.int 0)),
  (3, [.int 0, .int 0, .int 0, .int 9, .int 0, .ref 20, .ref 22, .ref 24, .ref 26, .ref 28, .ref 30, .ref 32]),
  (2, [.ref 21]),
  (20, List.replicate 10 (.int 0)),
  (2, [.ref 23]),
  (20, List.replicate 10 (.int 0)),
  (2, [.ref 25]),
  (20, List.replicate 4 (.int 0)),
  (2, [.ref 27]),
  (20, List.replicate 4 (.int 0)),
  (2, [.ref 29]),
  (20, List.replicate 6 (.int 0)),
  (2, [.ref 31]),
  (20, List.replicate 6 (.int 0)),
  (2, [.ref 33]),
  (20, List.replicate 6 (.int 0)),
  (4, [.int 0, .ref 35, .ref 37, .ref 39, .ref 41, .ref 43, .ref 45]),
  (2, [.ref 36]),
  (20, List.replicate 4 (.int 0)),
  (2, [.ref 38]),
  (20, List.replicate 4 (.int 0)),
  (2, [.ref 40]),
  (20, List.replicate 4 (.int 0)),
  (2, [.ref 42]),
  (20, List.replicate 4 (.int 0)),
  (2, [.ref 44]),
  (20, List.replicate 40 (.int 0)),
  (2, [.ref 46]),
  (20, List.replicate 16 (.int 0)),
  (5, [.ref 48, .ref 49, .int 0, .int 0, .int 0]),
  (22, [.ref 50, .ref 63, .null, .null, .null, .null, .null, .null]),
  (22, [.null, .null]),
  (4, [.int 0, .ref 51, .ref 53, .ref 55, .ref 57, .ref 59, .ref 61]),
  (2, [.ref 52]),
  (20, List.replicate 4 (.int 0)),
  (2, [.ref 54]),
  (20, List.replicate 4 (.int 0)),
  (2, [.ref 56]),
  (20, List.replicate 4 (.int 0)),
  (2, [.ref 58]),
  (20, List.replicate 4 (.int 0)),
  (2, [.ref 60]),
  (20, List.replicate 40 (.int 0)),
  (2, [.ref 62]),
  (20, List.replicate 16 (.int 0)),
  (4, [.int 0, .ref 64, .ref 66, .ref 68, .ref 70, .ref 72, .ref 74]),
  (2, [.ref 65]),
  (20, List.replicate 4 (.int 0)),
  (2, [.ref 67]),
  (20, List.replicate 4 (.int 0)),
  (2, [.ref 69]),
  (20, List.replicate 4 (.int 0)),
  (2, [.ref 71]),
  (20, List.replicate 4 (.int 0)),
  (2, [.ref 73]),
  (20, List.replicate 40 (.int 0)),
  (2, [.ref 75]),
  (20, List.replicate 16 (.int 0)),
  (4, [.int 0, .ref 77, .ref 79, .ref 81, .ref 83, .ref 85, .ref 87]),
  (2, [.ref 78]),
  (20, List.replicate 4 (.int 0)),
  (2, [.ref 80]),
  (20, List.replicate 4 (.int 0)),
  (2, [.ref 82]),
  (20, List.replicate 4 (.int 0)),
  (2, [.ref 84]),
  (20, List.replicate 4 (.int 0)),
  (2, [.ref 86]),
  (20, List.replicate 40 (.int 0)),
  (2, [.ref 88]),
  (20, List.replicate 16 (.int 0))]
set_option maxRecDepth 1000000 in
theorem zck12 : zpreF (zevF 8) zpC6 44 14 45 [some (.ref 47), some (.int 1)] [] zw12 = some ([some (.ref 47), some (.int 2)], [.ref 76, .int 2, .ref 48], zw13) := by decide +kernel
def zw14 : zW := [
  (0, [.ref 1, .ref 4, .ref 19, .ref 34, .null, .null, .null, .null, .null]),
  (1, [.ref 2, .int 0, .int 0, .int 0, .int 0]),
  (2, [.ref 3]),
  (20, List.replicate 160 (.int 0)),
  (3, [.int 0, .int 0, .int 0, .int 9, .int 0, .ref 5, .ref 7, .ref 9, .ref 11, .ref 13, .ref 15, .ref 17]),
  (2, [.ref 6]),
  (20, List.replicate 10 (.int 0)),
  (2, [.ref 8]),
  (20, List.replicate 10 (.int 0)),
  (2, [.ref 10]),
  (20, List.replicate 4 (.int 0)),
  (2, [.ref 12]),
  (20, List.replicate 4 (.int 0)),
  (2, [.ref 14]),
  (20, List.replicate 6 (.int 0)),
  (2, [.ref 16]),
  (20, List.replicate 6 (.int 0)),
  (2, [.ref 18]),
  (20, List.replicate 6 (.int 0)),
  (3, [.int 0, .int 0, .int 0, .int 9, .int 0, .ref 20, .ref 22, .ref 24, .ref 26, .ref 28, .ref 30, .ref 32]),
  (2, [.ref 21]),
  (20, List.replicate 10 (.int 0)),
  (2, [.ref 23]),
  (20, List.replicate 10 (.int 0)),
  (2, [.ref 25]),
  (20, List.replicate 4 (.int 0)),
  (2, [.ref 27]),
  (20, List.replicate 4 (.int 0)),
  (2, [.ref 29]),
  (20, List.replicate 6 (.int 0)),
  (2, [.ref 31]),
  (20, List.replicate 6 (.int 0)),
  (2, [.ref 33]),
  (20, List.replicate 6 (.int 0)),
  (4, [.int 0, .ref 35, .ref 37, .ref 39, .ref 41, .ref 43, .ref 45]),
  (2, [.ref 36]),
  (20, List.replicate 4 (.int 0)),
  (2, [.ref 38]),
  (20, List.replicate 4 (.int 0)),
  (2, [.ref 40]),
  (20, List.replicate 4 (.int 0)),
  (2, [.ref 42]),
  (20, List.replicate 4 (.int 0)),
  (2, [.ref 44]),
  (20, List.replicate 40 (.int 0)),
  (2, [.ref 46]),
  (20, List.replicate 16 (.int 0)),
  (5, [.ref 48, .ref 49, .int 0, .int 0, .int 0]),
  (22, [.ref 50, .ref 63, .ref 76, .null, .null, .null, .null, .null]),
  (22, [.null, .null]),
  (4, [.int 0, .ref 51, .ref 53, .ref 55, .ref 57, .ref 59, .ref 61]),
  (2, [.ref 52]),
  (20, List.replicate 4 (.int 0)),
  (2, [.ref 54]),
  (20, List.replicate 4 (.int 0)),
  (2, [.ref 56]),
  (20, List.replicate 4 (.int 0)),
  (2, [.ref 58]),
  (20, List.replicate 4 (.int 0)),
  (2, [.ref 60]),
  (20, List.replicate 40 (.int 0)),
  (2, [.ref 62]),
  (20, List.replicate 16 (.int 0)),
  (4, [.int 0, .ref 64, .ref 66, .ref 68, .ref 70, .ref 72, .ref 74]),
  (2, [.ref 65]),
  (20, List.replicate 4 (.int 0)),
  (2, [.ref 67]),
  (20, List.replicate 4 (.int 0)),
  (2, [.ref 69]),
  (20, List.replicate 4 (.int 0)),
  (2, [.ref 71]),
  (20, List.replicate 4 (.int 0)),
  (2, [.ref 73]),
  (20, List.replicate 40 (.int 0)),
  (2, [.ref 75]),
  (20, List.replicate 16 (.int 0)),
  (4, [.int 0, .ref 77, .ref 79, .ref 81, .ref 83, .ref 85, .ref 87]),
  (2, [.ref 78]),
  (20, List.replicate 4 (.int 0)),
  (2, [.ref 80]),
  (20, List.replicate 4 (.int 0)),
  (2, [.ref 82]),
  (20, List.replicate 4 (.int 0)),
  (2, [.ref 84]),
  (20, List.replicate 4 (.int 0)),
  (2, [.ref 86]),
  (20, List.replicate 40 (.int 0)),
  (2, [.ref 88]),
  (20, List.replicate 16 (.int 0))]
set_option maxRecDepth 1000000 in
theorem zck13 : zpreF (zevF 8) zpC6 45 2 44 [some (.ref 47), some (.int 2)] [.ref 76, .int 2, .ref 48] zw13 = some ([some (.ref 47), some (.int 2)], [], zw14) := by decide +kernel
def zw15 : zW := [
  (0, [.ref 1, .ref 4, .ref 19, .ref 34, .null, .null, .null, .null, .null]),
  (1, [.ref 2, .int 0, .int 0, .int 0, .int 0]),
  (2, [.ref 3]),
  (20, List.replicate 160 (.int 0)),
  (3, [.int 0, .int 0, .int 0, .int 9, .int 0, .ref 5, .ref 7, .ref 9, .ref 11, .ref 13, .ref 15, .ref 17]),
  (2, [.ref 6]),
  (20, List.replicate 10 (.int 0)),
  (2, [.ref 8]),
  (20, List.replicate 10 (.int 0)),
  (2, [.ref 10]),
  (20, List.replicate 4 (.int 0)),
  (2, [.ref 12]),
  (20, List.replicate 4 (.int 0)),
  (2, [.ref 14]),
  (20, List.replicate 6 (.int 0)),
  (2, [.ref 16]),
  (20, List.replicate 6 (.int 0)),
  (2, [.ref 18]),
  (20, List.replicate 6 (.int 0)),
  (3, [.int 0, .int 0, .int 0, .int 9, .int 0, .ref 20, .ref 22, .ref 24, .ref 26, .ref 28, .ref 30, .ref 32]),
  (2, [.ref 21]),
  (20, List.replicate 10 (.int 0)),
  (2, [.ref 23]),
  (20, List.replicate 10 (.int 0)),
  (2, [.ref 25]),
  (20, List.replicate 4 (.int 0)),
  (2, [.ref 27]),
  (20, List.replicate 4 (.int 0)),
  (2, [.ref 29]),
  (20, List.replicate 6 (.int 0)),
  (2, [.ref 31]),
  (20, List.replicate 6 (.int 0)),
  (2, [.ref 33]),
  (20, List.replicate 6 (.int 0)),
  (4, [.int 0, .ref 35, .ref 37, .ref 39, .ref 41, .ref 43, .ref 45]),
  (2, [.ref 36]),
  (20, List.replicate 4 (.int 0)),
  (2, [.ref 38]),
  (20, List.replicate 4 (.int 0)),
  (2, [.ref 40]),
  (20, List.replicate 4 (.int 0)),
  (2, [.ref 42]),
  (20, List.replicate 4 (.int 0)),
  (2, [.ref 44]),
  (20, List.replicate 40 (.int 0)),
  (2, [.ref 46]),
  (20, List.replicate 16 (.int 0)),
  (5, [.ref 48, .ref 49, .int 0, .int 0, .int 0]),
  (22, [.ref 50, .ref 63, .ref 76, .null, .null, .null, .null, .null]),
  (22, [.null, .null]),
  (4, [.int 0, .ref 51, .ref 53, .ref 55, .ref 57, .ref 59, .ref 61]),
  (2, [.ref 52]),
  (20, List.replicate 4 (.int 0)),
  (2, [.ref 54]),
  (20, List.replicate 4 (.int 0)),
  (2, [.ref 56]),
  (20, List.replicate 4 (.int 0)),
  (2, [.ref 58]),
  (20, List.replicate 4 (.int 0)),
  (2, [.ref 60]),
  (20, List.replicate 40 (.int 0)),
  (2, [.ref 62]),
  (20, List.replicate 16 (.int 0)),
  (4, [.int 0, .ref 64, .ref 66, .ref 68, .ref 70, .ref 72, .ref 74]),
  (2, [.ref 65]),
  (20, List.replicate 4 (.int 0)),
  (2, [.ref 67]),
  (20, List.replicate 4 (.int 0)),
  (2, [.ref 69]),
  (20, List.replicate 4 (.int 0)),
  (2, [.ref 71]),
  (20, List.replicate 4 (.int 0)),
  (2, [.ref 73]),
  (20, List.replicate 40 (.int 0)),
  (2, [.ref 75]),
  (20, List.replicate 16 (.int 0)),
  (4, [.int 0, .ref 77, .ref 79, .ref 81, .ref 83, .ref 85, .ref 87]),
  (2, [.ref 78]),
  (20, List.replicate 4 (.int 0)),
  (2, [.ref 80]),
  (20, List.replicate 4 (.int 0)),
  (2, [.ref 82]),
  (20, List.replicate 4 (.int 0)),
  (2, [.ref 84]),
  (20, List.replicate 4 (.int 0)),
  (2, [.ref 86]),
  (20, List.replicate 40 (.int 0)),
  (2, [.ref 88]),
  (20, List.replicate 16 (.int 0)),
  (4, [.int 0, .ref 90, .ref 92, .ref 94, .ref 96, .ref 98, .ref 100]),
  (2, [.ref 91]),
  (20, List.replicate 4 (.int 0)),
  (2, [.ref 93]),
  (20, List.replicate 4 (.int 0)),
  (2, [.ref 95]),
  (20, List.replicate 4 (.int 0)),
  (2, [.ref 97]),
  (20, List.replicate 4 (.int 0)),
  (2, [.ref 99]),
  (20, List.replicate 40 (.int 0)),
  (2, [.ref 101]),
  (20, List.replicate 16 (.int 0))]
set_option maxRecDepth 1000000 in
theorem zck14 : zpreF (zevF 8) zpC6 44 14 45 [some (.ref 47), some (.int 2)] [] zw14 = some ([some (.ref 47), some (.int 3)], [.ref 89, .int 3, .ref 48], zw15) := by decide +kernel
def zw16 : zW := [
  (0, [.ref 1, .ref 4, .ref 19, .ref 34, .null, .null, .null, .null, .null]),
  (1, [.ref 2, .int 0, .int 0, .int 0, .int 0]),
  (2, [.ref 3]),
  (20, List.replicate 160 (.int 0)),
  (3, [.int 0, .int 0, .int 0, .int 9, .int 0, .ref 5, .ref 7, .ref 9, .ref 11, .ref 13, .ref 15, .ref 17]),
  (2, [.ref 6]),
  (20, List.replicate 10 (.int 0)),
  (2, [.ref 8]),
  (20, List.replicate 10 (.int 0)),
  (2, [.ref 10]),
  (20, List.replicate 4 (.int 0)),
  (2, [.ref 12]),
  (20, List.replicate 4 (.int 0)),
  (2, [.ref 14]),
  (20, List.replicate 6 (.int 0)),
  (2, [.ref 16]),
  (20, List.replicate 6 (.int 0)),
  (2, [.ref 18]),
  (20, List.replicate 6 (.int 0)),
  (3, [.int 0, .int 0, .int 0, .int 9, .int 0, .ref 20, .ref 22, .ref 24, .ref 26, .ref 28, .ref 30, .ref 32]),
  (2, [.ref 21]),
  (20, List.replicate 10 (.int 0)),
  (2, [.ref 23]),
  (20, List.replicate 10 (.int 0)),
  (2, [.ref 25]),
  (20, List.replicate 4 (.int 0)),
  (2, [.ref 27]),
  (20, List.replicate 4 (.int 0)),
  (2, [.ref 29]),
  (20, List.replicate 6 (.int 0)),
  (2, [.ref 31]),
  (20, List.replicate 6 (.int 0)),
  (2, [.ref 33]),
  (20, List.replicate 6 (.int 0)),
  (4, [.int 0, .ref 35, .ref 37, .ref 39, .ref 41, .ref 43, .ref 45]),
  (2, [.ref 36]),
  (20, List.replicate 4 (.int 0)),
  (2, [.ref 38]),
  (20, List.replicate 4 (.int 0)),
  (2, [.ref 40]),
  (20, List.replicate 4 (.int 0)),
  (2, [.ref 42]),
  (20, List.replicate 4 (.int 0)),
  (2, [.ref 44]),
  (20, List.replicate 40 (.int 0)),
  (2, [.ref 46]),
  (20, List.replicate 16 (.int 0)),
  (5, [.ref 48, .ref 49, .int 0, .int 0, .int 0]),
  (22, [.ref 50, .ref 63, .ref 76, .ref 89, .null, .null, .null, .null]),
  (22, [.null, .null]),
  (4, [.int 0, .ref 51, .ref 53, .ref 55, .ref 57, .ref 59, .ref 61]),
  (2, [.ref 52]),
  (20, List.replicate 4 (.int 0)),
  (2, [.ref 54]),
  (20, List.replicate 4 (.int 0)),
  (2, [.ref 56]),
  (20, List.replicate 4 (.int 0)),
  (2, [.ref 58]),
  (20, List.replicate 4 (.int 0)),
  (2, [.ref 60]),
  (20, List.replicate 40 (.int 0)),
  (2, [.ref 62]),
  (20, List.replicate 16 (.int 0)),
  (4, [.int 0, .ref 64, .ref 66, .ref 68, .ref 70, .ref 72, .ref 74]),
  (2, [.ref 65]),
  (20, List.replicate 4 (.int 0)),
  (2, [.ref 67]),
  (20, List.replicate 4 (.int 0)),
  (2, [.ref 69]),
  (20, List.replicate 4 (.int 0)),
  (2, [.ref 71]),
  (20, List.replicate 4 (.int 0)),
  (2, [.ref 73]),
  (20, List.replicate 40 (.int 0)),
  (2, [.ref 75]),
  (20, List.replicate 16 (.int 0)),
  (4, [.int 0, .ref 77, .ref 79, .ref 81, .ref 83, .ref 85, .ref 87]),
  (2, [.ref 78]),
  (20, List.replicate 4 (.int 0)),
  (2, [.ref 80]),
  (20, List.replicate 4 (.int 0)),
  (2, [.ref 82]),
  (20, List.replicate 4 (.int 0)),
  (2, [.ref 84]),
  (20, List.replicate 4 (.int 0)),
  (2, [.ref 86]),
  (20, List.replicate 40 (.int 0)),
  (2, [.ref 88]),
  (20, List.replicate 16 (.int 0)),
  (4, [.int 0, .ref 90, .ref 92, .ref 94, .ref 96, .ref 98, .ref 100]),
  (2, [.ref 91]),
  (20, List.replicate 4 (.int 0)),
  (2, [.ref 93]),
  (20, List.replicate 4 (.int 0)),
  (2, [.ref 95]),
  (20, List.replicate 4 (.int 0)),
  (2, [.ref 97]),
  (20, List.replicate 4 (.int 0)),
  (2, [.ref 99]),
  (20, List.replicate 40 (.int 0)),
  (2, [.ref 101]),
  (20, List.replicate 16 (.int 0))]
set_option maxRecDepth 1000000 in
theorem zck15 : zpreF (zevF 8) zpC6 45 2 44 [some (.ref 47), some (.int 3)] [.ref 89, .int 3, .ref 48] zw15 = some ([some (.ref 47), some (.int 3)], [], zw16) := by decide +kernel
def zw17 : zW := [
  (0, [.ref 1, .ref 4, .ref 19, .ref 34, .null, .null, .null, .null, .null]),
  (1, [.ref 2, .int 0, .int 0, .int 0, .int 0]),
  (2, [.ref 3]),
  (20, List.replicate 160 (.int 0)),
  (3, [.int 0, .int 0, .int 0, .int 9, .int 0, .ref 5, .ref 7, .ref 9, .ref 11, .ref 13, .ref 15, .ref 17]),
  (2, [.ref 6]),
  (20, List.replicate 10 (.int 0)),
  (2, [.ref 8]),
  (20, List.replicate 10 (.int 0)),
  (2, [.ref 10]),
  (20, List.replicate 4 (.int 0)),
  (2, [.ref 12]),
  (20, List.replicate 4 (.int 0)),
  (2, [.ref 14]),
  (20, List.replicate 6 (.int 0)),
  (2, [.ref 16]),
  (20, List.replicate 6 (.int 0)),
  (2, [.ref 18]),
  (20, List.replicate 6 (.int 0)),
  (3, [.int 0, .int 0, .int 0, .int 9, .int 0, .ref 20, .ref 22, .ref 24, .ref 26, .ref 28, .ref 30, .ref 32]),
  (2, [.ref 21]),
  (20, List.replicate 10 (.int 0)),
  (2, [.ref 23]),
  (20, List.replicate 10 (.int 0)),
  (2, [.ref 25]),
  (20, List.replicate 4 (.int 0)),
  (2, [.ref 27]),
  (20, List.replicate 4 (.int 0)),
  (2, [.ref 29]),
  (20, List.replicate 6 (.int 0)),
  (2, [.ref 31]),
  (20, List.replicate 6 (.int 0)),
  (2, [.ref 33]),
  (20, List.replicate 6 (.int 0)),
  (4, [.int 0, .ref 35, .ref 37, .ref 39, .ref 41, .ref 43, .ref 45]),
  (2, [.ref 36]),
  (20, List.replicate 4 (.int 0)),
  (2, [.ref 38]),
  (20, List.replicate 4 (.int 0)),
  (2, [.ref 40]),
  (20, List.replicate 4 (.int 0)),
  (2, [.ref 42]),
  (20, List.replicate 4 (.int 0)),
  (2, [.ref 44]),
  (20, List.replicate 40 (.int 0)),
  (2, [.ref 46]),
  (20, List.replicate 16 (.int 0)),
  (5, [.ref 48, .ref 49, .int 0, .int 0, .int 0]),
  (22, [.ref 50, .ref 63, .ref 76, .ref 89, .null, .null, .null, .null]),
  (22, [.null, .null]),
  (4, [.int 0, .ref 51, .ref 53, .ref 55, .ref 57, .ref 59, .ref 61]),
  (2, [.ref 52]),
  (20, List.replicate 4 (.int 0)),
  (2, [.ref 54]),
  (20, List.replicate 4 (.int 0)),
  (2, [.ref 56]),
  (20, List.replicate 4 (.int 0)),
  (2, [.ref 58]),
  (20, List.replicate 4 (.int 0)),
  (2, [.ref 60]),
  (20, List.replicate 40 (.int 0)),
  (2, [.ref 62]),
  (20, List.replicate 16 (.int 0)),
  (4, [.int 0, .ref 64, .ref 66, .ref 68, .ref 70, .ref 72, .ref 74]),
  (2, [.ref 65]),
  (20, List.replicate 4 (.int 0)),
  (2, [.ref 67]),
  (20, List.replicate 4 (.int 0)),
  (2, [.ref 69]),
  (20, List.replicate 4 (.int 0)),
  (2, [.ref 71]),
  (20, List.replicate 4 (.int 0)),
  (2, [.ref 73]),
  (20, List.replicate 40 (.int 0)),
  (2, [.ref 75]),
  (20, List.replicate 16 (.int 0)),
  (4, [.int 0, .ref 77, .ref 79, .ref 81, .ref 83, .ref 85, .ref 87]),
  (2, [.ref 78]),
  (20, List.replicate 4 (.int 0)),
  (2, [.ref 80]),
  (20, List.replicate 4 (.int 0)),
  (2, [.ref 82]),
  (20, List.replicate 4 (.int 0)),
  (2, [.ref 84]),
  (20, List.replicate 4 (.int 0)),
  (2, [.ref 86]),
  (20, List.replicate 40 (.int 0)),
  (2, [.ref 88]),
  (20, List.replicate 16 (.int 0)),
  (4, [.int 0, .ref 90, .ref 92, .ref 94, .ref 96, .ref 98, .ref 100]),
  (2, [.ref 91]),
  (20, List.replicate 4 (.int 0)),
  (2, [.ref 93]),
  (20, List.replicate 4 (.int 0)),
  (2, [.ref 95]),
  (20, List.replicate 4 (.int 0)),
  (2, [.ref 97]),
  (20, List.replicate 4 (.int 0)),
  (2, [.ref 99]),
  (20, List.replicate 40 (.int 0)),
  (2, [.ref 101]),
  (20, List.replicate 16 (.int 0)),
  (4, [.int 0, .ref 103, .ref 105, .ref 107, .ref 109, .ref 111, .ref 113]),
  (2, [.ref 104]),
  (20, List.replicate 4 (.int 0)),
  (2, [.ref 106]),
  (20, List.replicate 4 (.int 0)),
  (2, [.ref 108]),
  (20, List.replicate 4 (.int 0)),
  (2, [.ref 110]),
  (20, List.replicate 4 (.int 0)),
  (2, [.ref 112]),
  (20, List.replicate 40 (.int 0)),
  (2, [.ref 114]),
  (20, List.replicate 16 (.int 0))]
set_option maxRecDepth 1000000 in
theorem zck16 : zpreF (zevF 8) zpC6 44 14 45 [some (.ref 47), some (.int 3)] [] zw16 = some ([some (.ref 47), some (.int 4)], [.ref 102, .int 4, .ref 48], zw17) := by decide +kernel
def zw18 : zW := [
  (0, [.ref 1, .ref 4, .ref 19, .ref 34, .null, .null, .null, .null, .null]),
  (1, [.ref 2, .int 0, .int 0, .int 0, .int 0]),
  (2, [.ref 3]),
  (20, List.replicate 160 (.int 0)),
  (3, [.int 0, .int 0, .int 0, .int 9, .int 0, .ref 5, .ref 7, .ref 9, .ref 11, .ref 13, .ref 15, .ref 17]),
  (2, [.ref 6]),
  (20, List.replicate 10 (.int 0)),
  (2, [.ref 8]),
  (20, List.replicate 10 (.int 0)),
  (2, [.ref 10]),
  (20, List.replicate 4 (.int 0)),
  (2, [.ref 12]),
  (20, List.replicate 4 (.int 0)),
  (2, [.ref 14]),
  (20, List.replicate 6 (.int 0)),
  (2, [.ref 16]),
  (20, List.replicate 6 (.int 0)),
  (2, [.ref 18]),
  (20, List.replicate 6 (.int 0)),
  (3, [.int 0, .int 0, .int 0, .int 9, .int 0, .ref 20, .ref 22, .ref 24, .ref 26, .ref 28, .ref 30, .ref 32]),
  (2, [.ref 21]),
  (20, List.replicate 10 (.int 0)),
  (2, [.ref 23]),
  (20, List.replicate 10 (.int 0)),
  (2, [.ref 25]),
  (20, List.replicate 4 (.int 0)),
  (2, [.ref 27]),
  (20, List.replicate 4 (.int 0)),
  (2, [.ref 29]),
  (20, List.replicate 6 (.int 0)),
  (2, [.ref 31]),
  (20, List.replicate 6 (.int 0)),
  (2, [.ref 33]),
  (20, List.replicate 6 (.int 0)),
  (4, [.int 0, .ref 35, .ref 37, .ref 39, .ref 41, .ref 43, .ref 45]),
  (2, [.ref 36]),
  (20, List.replicate 4 (.int 0)),
  (2, [.ref 38]),
  (20, List.replicate 4 (.int 0)),
  (2, [.ref 40]),
  (20, List.replicate 4 (.int 0)),
  (2, [.ref 42]),
  (20, List.replicate 4 (.int 0)),
  (2, [.ref 44]),
  (20, List.replicate 40 (.int 0)),
  (2, [.ref 46]),
  (20, List.replicate 16 (.int 0)),
  (5, [.ref 48, .ref 49, .int 0, .int 0, .int 0]),
  (22, [.ref 50, .ref 63, .ref 76, .ref 89, .ref 102, .null, .null, .null]),
  (22, [.null, .null]),
  (4, [.int 0, .ref 51, .ref 53, .ref 55, .ref 57, .ref 59, .ref 61]),
  (2, [.ref 52]),
  (20, List.replicate 4 (.int 0)),
  (2, [.ref 54]),
  (20, List.replicate 4 (.int 0)),
  (2, [.ref 56]),
  (20, List.replicate 4 (.int 0)),
  (2, [.ref 58]),
  (20, List.replicate 4 (.int 0)),
  (2, [.ref 60]),
  (20, List.replicate 40 (.int 0)),
  (2, [.ref 62]),
  (20, List.replicate 16 (.int 0)),
  (4, [.int 0, .ref 64, .ref 66, .ref 68, .ref 70, .ref 72, .ref 74]),
  (2, [.ref 65]),
  (20, List.replicate 4 (.int 0)),
  (2, [.ref 67]),
  (20, List.replicate 4 (.int 0)),
  (2, [.ref 69]),
  (20, List.replicate 4 (.int 0)),
  (2, [.ref 71]),
  (20, List.replicate 4 (.int 0)),
  (2, [.ref 73]),
  (20, List.replicate 40 (.int 0)),
  (2, [.ref 75]),
  (20, List.replicate 16 (.int 0)),
  (4, [.int 0, .ref 77, .ref 79, .ref 81, .ref 83, .ref 85, .ref 87]),
  (2, [.ref 78]),
  (20, List.replicate 4 (.int 0)),
  (2, [.ref 80]),
  (20, List.replicate 4 (.int 0)),
  (2, [.ref 82]),
  (20, List.replicate 4 (.int 0)),
  (2, [.ref 84]),
  (20, List.replicate 4 (.int 0)),
  (2, [.ref 86]),
  (20, List.replicate 40 (.int 0)),
  (2, [.ref 88]),
  (20, List.replicate 16 (.int 0)),
  (4, [.int 0, .ref 90, .ref 92, .ref 94, .ref 96, .ref 98, .ref 100]),
  (2, [.ref 91]),
  (20, List.replicate 4 (.int 0)),
  (2, [.ref 93]),
  (20, List.replicate 4 (.int 0)),
  (2, [.ref 95]),
  (20, List.replicate 4 (.int 0)),
  (2, [.ref 97]),
  (20, List.replicate 4 (.int 0)),
  (2, [.ref 99]),
  (20, List.replicate 40 (.int 0)),
  (2, [.ref 101]),
  (20, List.replicate 16 (.int 0)),
  (4, [.int 0, .ref 103, .ref 105, .ref 107, .ref 109, .ref 111, .ref 113]),
  (2, [.ref 104]),
  (20, List.replicate 4 (.int 0)),
  (2, [.ref 106]),
  (20, List.replicate 4 (.int 0)),
  (2, [.ref 108]),
  (20, List.replicate 4 (.int 0)),
  (2, [.ref 110]),
  (20, List.replicate 4 (.int 0)),
  (2, [.ref 112]),
  (20, List.replicate 40 (.int 0)),
  (2, [.ref 114]),
  (20, List.replicate 16 (.int 0))]
set_option maxRecDepth 1000000 in
theorem zck17 : zpreF (zevF 8) zpC6 45 2 44 [some (.ref 47), some (.int 4)] [.ref 102, .int 4, .ref 48] zw17 = some ([some (.ref 47), some (.int 4)], [], zw18) := by decide +kernel
def zw19 : zW := [
  (0, [.ref 1, .ref 4, .ref 19, .ref 34, .null, .null, .null, .null, .null]),
  (1, [.ref 2, .int 0, .int 0, .int 0, .int 0]),
  (2, [.ref 3]),
  (20, List.replicate 160 (.int 0)),
  (3, [.int 0, .int 0, .int 0, .int 9, .int 0, .ref 5, .ref 7, .ref 9, .ref 11, .ref 13, .ref 15, .ref 17]),
  (2, [.ref 6]),
  (20, List.replicate 10 (.int 0)),
  (2, [.ref 8]),
  (20, List.replicate 10 (.int 0)),
  (2, [.ref 10]),
  (20, List.replicate 4 (.int 0)),
  (2, [.ref 12]),
  (20, List.replicate 4 (.int 0)),
  (2, [.ref 14]),
  (20, List.replicate 6 (.int 0)),
  (2, [.ref 16]),
  (20, List.replicate 6 (.int 0)),
  (2, [.ref 18]),
  (20, List.replicate 6 (.int 0)),
  (3, [.int 0, .int 0, .int 0, .int 9, .int 0, .ref 20, .ref 22, .ref 24, .ref 26, .ref 28, .ref 30, .ref 32]),
  (2, [.ref 21]),
  (20, List.replicate 10 (.int 0)),
  (2, [.ref 23]),
  (20, List.replicate 10 (.int 0)),
  (2, [.ref 25]),
  (20, List.replicate 4 (.int 0)),
  (2, [.ref 27]),
  (20, List.replicate 4 (.int 0)),
  (2, [.ref 29]),
  (20, List.replicate 6 (.int 0)),
  (2, [.ref 31]),
  (20, List.replicate 6 (.int 0)),
  (2, [.ref 33]),
  (20, List.replicate 6 (.int 0)),
  (4, [.int 0, .ref 35, .ref 37, .ref 39, .ref 41, .ref 43, .ref 45]),
  (2, [.ref 36]),
  (20, List.replicate 4 (.int 0)),
  (2, [.ref 38]),
  (20, List.replicate 4 (.int 0)),
  (2, [.ref 40]),
  (20, List.replicate 4 (.int 0)),
  (2, [.ref 42]),
  (20, List.replicate 4 (.int 0)),
  (2, [.ref 44]),
  (20, List.replicate 40 (.int 0)),
  (2, [.ref 46]),
  (20, List.replicate 16 (.int 0)),
  (5, [.ref 48, .ref 49, .int 0, .int 0, .int 0]),
  (22, [.ref 50, .ref 63, .ref 76, .ref 89, .ref 102, .null, .null, .null]),
  (22, [.null, .null]),
  (4, [.int 0, .ref 51, .ref 53, .ref 55, .ref 57, .ref 59, .ref 61]),
  (2, [.ref 52]),
  (20, List.replicate 4 (.int 0)),
  (2, [.ref 54]),
  (20, List.replicate 4 (.int 0)),
  (2, [.ref 56]),
  (20, List.replicate 4 (.int 0)),
  (2, [.ref 58]),
  (20, List.replicate 4 (.int 0)),
  (2, [.ref 60]),
  (20, List.replicate 40 (.int 0)),
  (2, [.ref 62]),
  (20, List.replicate 16 (.int 0)),
  (4, [.int 0, .ref 64, .ref 66, .ref 68, .ref 70, .ref 72, .ref 74]),
  (2, [.ref 65]),
  (20, List.replicate 4 (.int 0)),
  (2, [.ref 67]),
  (20, List.replicate 4 (.int 0)),
  (2, [.ref 69]),
  (20, List.replicate 4 (.int 0)),
  (2, [.ref 71]),
  (20, List.replicate 4 (.int 0)),
  (2, [.ref 73]),
  (20, List.replicate 40 (.int 0)),
  (2, [.ref 75]),
  (20, List.replicate 16 (.int 0)),
  (4, [.int 0, .ref 77, .ref 79, .ref 81, .ref 83, .ref 85, .ref 87]),
  (2, [.ref 78]),
  (20, List.replicate 4 (.int 0)),
  (2, [.ref 80]),
  (20, List.replicate 4 (.int 0)),
  (2, [.ref 82]),
  (20, List.replicate 4 (.int 0)),
  (2, [.ref 84]),
  (20, List.replicate 4 (.int 0)),
  (2, [.ref 86]),
  (20, List.replicate 40 (.int 0)),
  (2, [.ref 88]),
  (20, List.replicate 16 (.int 0)),
  (4, [.int 0, .ref 90, .ref 92, .ref 94, .ref 96, .ref 98, .ref 100]),
  (2, [.ref 91]),
  (20, List.replicate 4 (.int 0)),
  (2, [.ref 93]),
  (20, List.replicate 4 (.int 0)),
  (2, [.ref 95]),
  (20, List.replicate 4 (.int 0)),
  (2, [.ref 97]),
  (20, List.replicate 4 (.int 0)),
  (2, [.ref 99]),
  (20, List.replicate 40 (.int 0)),
  (2, [.ref 101]),
  (20, List.replicate 16 (.int 0)),
  (4, [.int 0, .ref 103, .ref 105, .ref 107, .ref 109, .ref 111, .ref 113]),
  (2, [.ref 104]),
  (20, List.replicate 4 (.int 0)),
  (2, [.ref 106]),
  (20, List.replicate 4 (.int 0)),
  (2, [.ref 108]),
  (20, List.replicate 4 (.int 0)),
  (2, [.ref 110]),
  (20, List.replicate 4 (.int 0)),
  (2, [.ref 112]),
  (20, List.replicate 40 (.int 0)),
  (2, [.ref 114]),
  (20, List.replicate 16 (.int 0)),
  (4, [.int 0, .ref 116, .ref 118, .ref 120, .ref 122, .ref 124, .ref 126]),
  (2, [.ref 117]),
  (20, List.replicate 4 (.int 0)),
  (2, [.ref 119]),
  (20, List.replicate 4 (.int 0)),
  (2, [.ref 121]),
  (20, List.replicate 4 (.int 0)),
  (2, [.ref 123]),
  (20, List.replicate 4 (.int 0)),
  (2, [.ref 125]),
  (20, List.replicate 40 (.int 0)),
  (2, [.ref 127]),
  (20, List.replicate 16 (.int 0))]
set_option maxRecDepth 1000000 in
theorem zck18 : zpreF (zevF 8) zpC6 44 14 45 [some (.ref 47), some (.int 4)] [] zw18 = some ([some (.ref 47), some (.int 5)], [.ref 115, .int 5, .ref 48], zw19) := by decide +kernel
def zw20 : zW := [
  (0, [.ref 1, .ref 4, .ref 19, .ref 34, .null, .null, .null, .null, .null]),
  (1, [.ref 2, .int 0, .int 0, .int 0, .int 0]),
  (2, [.ref 3]),
  (20, List.replicate 160 (.int 0)),
  (3, [.int 0, .int 0, .int 0, .int 9, .int 0, .ref 5, .ref 7, .ref 9, .ref 11, .ref 13, .ref 15, .ref 17]),
  (2, [.ref 6]),
  (20, List.replicate 10 (.int 0)),
  (2, [.ref 8]),
  (20, List.replicate 10 (.int 0)),
  (2, [.ref 10]),
  (20, List.replicate 4 (.int 0)),
  (2, [.ref 12]),
  (20, List.replicate 4 (.int 0)),
  (2, [.ref 14]),
  (20, List.replicate 6 (.int 0)),
  (2, [.ref 16]),
  (20, List.replicate 6 (.int 0)),
  (2, [.ref 18]),
  (20, List.replicate 6 (.int 0)),
  (3, [.int 0, .int 0, .int 0, .int 9, .int 0, .ref 20, .ref 22, .ref 24, .ref 26, .ref 28, .ref 30, .ref 32]),
  (2, [.ref 21]),
  (20, List.replicate 10 (.int 0)),
  (2, [.ref 23]),
  (20, List.replicate 10 (.int 0)),
  (2, [.ref 25]),
  (20, List.replicate 4 (.int 0)),
  (2, [.ref 27]),
  (20, List.replicate 4 (.int 0)),
  (2, [.ref 29]),
  (20, List.replicate 6 (.int 0)),
  (2, [.ref 31]),
  (20, List.replicate 6 (.int 0)),
  (2, [.ref 33]),
  (20, List.replicate 6 (.int 0)),
  (4, [.int 0, .ref 35, .ref 37, .ref 39, .ref 41, .ref 43, .ref 45]),
  (2, [.ref 36]),
  (20, List.replicate 4 (.int 0)),
  (2, [.ref 38]),
  (20, List.replicate 4 (.int 0)),
  (2, [.ref 40]),
  (20, List.replicate 4 (.int 0)),
  (2, [.ref 42]),
  (20, List.replicate 4 (.int 0)),
  (2, [.ref 44]),
  (20, List.replicate 40 (.int 0)),
  (2, [.ref 46]),
  (20, List.replicate 16 (.int 0)),
  (5, [.ref 48, .ref 49, .int 0, .int 0, .int 0]),
  (22, [.ref 50, .ref 63, .ref 76, .ref 89, .ref 102, .ref 115, .null, .null]),
  (22, [.null, .null]),
  (4, [.int 0, .ref 51, .ref 53, .ref 55, .ref 57, .ref 59, .ref 61]),
  (2, [.ref 52]),
  (20, List.replicate 4 (.int 0)),
  (2, [.ref 54]),
  (20, List.replicate 4 (.int 0)),
  (2, [.ref 56]),
  (20, List.replicate 4 (.int 0)),
  (2, [.ref 58]),
  (20, List.replicate 4 (.int 0)),
  (2, [.ref 60]),
  (20, List.replicate 40 (.int 0)),
  (2, [.ref 62]),
  (20, List.replicate 16 (.int 0)),
  (4, [.int 0, .ref 64, .ref 66, .ref 68, .ref 70, .ref 72, .ref 74]),
  (2, [.ref 65]),
  (20, List.replicate 4 (.int 0)),
  (2, [.ref 67]),
  (20, List.replicate 4 (.int 0)),
  (2, [.ref 69]),
  (20, List.replicate 4 (.int 0)),
  (2, [.ref 71]),
  (20, List.replicate 4 (.int 0)),
  (2, [.ref 73]),
  (20, List.replicate 40 (.int 0)),
  (2, [.ref 75]),
  (20, List.replicate 16 (.int 0)),
  (4, [.int 0, .ref 77, .ref 79, .ref 81, .ref 83, .ref 85, .ref 87]),
  (2, [.ref 78]),
  (20, List.replicate 4 (.int 0)),
  (2, [.ref 80]),
  (20, List.replicate 4 (.int 0)),
  (2, [.ref 82]),
  (20, List.replicate 4 (.int 0)),
  (2, [.ref 84]),
  (20, List.replicate 4 (.int 0)),
  (2, [.ref 86]),
  (20, List.replicate 40 (.int 0)),
  (2, [.ref 88]),
  (20, List.replicate 16 (.int 0)),
  (4, [.int 0, .ref 90, .ref 92, .ref 94, .ref 96, .ref 98, .ref 100]),
  (2, [.ref 91]),
  (20, List.replicate 4 (.int 0)),
  (2, [.ref 93]),
  (20, List.replicate 4 (.int 0)),
  (2, [.ref 95]),
  (20, List.replicate 4 (.int 0)),
  (2, [.ref 97]),
  (20, List.replicate 4 (.int 0)),
  (2, [.ref 99]),
  (20, List.replicate 40 (.int 0)),
  (2, [.ref 101]),
  (20, List.replicate 16 (.int 0)),
  (4, [.int 0, .ref 103, .ref 105, .ref 107, .ref 109, .ref 111, .ref 113]),
  (2, [.ref 104]),
  (20, List.replicate 4 (.int 0)),
  (2, [.ref 106]),
  (20, List.replicate 4 (.int 0)),
  (2, [.ref 108]),
  (20, List.replicate 4 (.int 0)),
  (2, [.ref 110]),
  (20, List.replicate 4 (.int 0)),
  (2, [.ref 112]),
  (20, List.replicate 40 (.int 0)),
  (2, [.ref 114]),
  (20, List.replicate 16 (.int 0)),
  (4, [.int 0, .ref 116, .ref 118, .ref 120, .ref 122, .ref 124, .ref 126]),
  (2, [.ref 117]),
  (20, List.replicate 4 (.int 0)),
  (2, [.ref 119]),
  (20, List.replicate 4 (.int 0)),
  (2, [.ref 121]),
  (20, List.replicate 4 (.int 0)),
  (2, [.ref 123]),
  (20, List.replicate 4 (.int 0)),
  (2, [.ref 125]),
  (20, List.replicate 40 (.int 0)),
  (2, [.ref 127]),
  (20, List.replicate 16 (.int 0))]
set_option maxRecDepth 1000000 in
theorem zck19 : zpreF (zevF 8) zpC6 45 2 44 [some (.ref 47), some (.int 5)] [.ref 115, .int 5, .ref 48] zw19 = some ([some (.ref 47), some (.int 5)], [], zw20) := by decide +kernel
def zw21 : zW := [
  (0, [.ref 1, .ref 4, .ref 19, .ref 34, .null, .null, .null, .null, .null]),
  (1, [.ref 2, .int 0, .int 0, .int 0, .int 0]),
  (2, [.ref 3]),
  (20, List.replicate 160 (.int 0)),
  (3, [.int 0, .int 0, .int 0, .int 9, .int 0, .ref 5, .ref 7, .ref 9, .ref 11, .ref 13, .ref 15, .ref 17]),
  (2, [.ref 6]),
  (20, List.replicate 10 (.int 0)),
  (2, [.ref 8]),
  (20, List.replicate 10 (.int 0)),
  (2, [.ref 10]),
  (20, List.replicate 4 (.int 0)),
  (2, [.ref 12]),
  (20, List.replicate 4 (.int 0)),
  (2, [.ref 14]),
  (20, List.replicate 6 (.int 0)),
  (2, [.ref 16]),
  (20, List.replicate 6 (.int 0)),
  (2, [.ref 18]),
  (20, List.replicate 6 (.int 0)),
  (3, [.int 0, .int 0, .int 0, .int 9, .int 0, .ref 20, .ref 22, .ref 24, .ref 26, .ref 28, .ref 30, .ref 32]),
  (2, [.ref 21]),
  (20, List.replicate 10 (.int 0)),
  (2, [.ref 23]),
  (20, List.replicate 10 (.int 0)),
  (2, [.ref 25]),
  (20, List.replicate 4 (.int 0)),
  (2, [.ref 27]),
  (20, List.replicate 4 (.int 0)),
  (2, [.ref 29]),
  (20, List.replicate 6 (.int 0)),
  (2, [.ref 31]),
  (20, List.replicate 6 (.int 0)),
  (2, [.ref 33]),
  (20, List.replicate 6 (.int 0)),
  (4, [.int 0, .ref 35, .ref 37, .ref 39, .ref 41, .ref 43, .ref 45]),
  (2, [.ref 36]),
  (20, List.replicate 4 (.int 0)),
  (2, [.ref 38]),
  (20, List.replicate 4 (.int 0)),
  (2, [.ref 40]),
  (20, List.replicate 4 (.int 0)),
  (2, [.ref 42]),
  (20, List.replicate 4 (.int 0)),
  (2, [.ref 44]),
  (20, List.replicate 40 (.int 0)),
  (2, [.ref 46]),
  (20, List.replicate 16 (.int 0)),
  (5, [.ref 48, .ref 49, .int 0, .int 0, .int 0]),
  (22, [.ref 50, .ref 63, .ref 76, .ref 89, .ref 102, .ref 115, .null, .null]),
  (22, [.null, .null]),
  (4, [.int 0, .ref 51, .ref 53, .ref 55, .ref 57, .ref 59, .ref 61]),
  (2, [.ref 52]),
  (20, List.replicate 4 (.int 0)),
  (2, [.ref 54]),
  (20, List.replicate 4 (.int 0)),
  (2, [.ref 56]),
  (20, List.replicate 4 (.int 0)),
  (2, [.ref 58]),
  (20, List.replicate 4 (.int 0)),
  (2, [.ref 60]),
  (20, List.replicate 40 (.int 0)),
  (2, [.ref 62]),
  (20, List.replicate 16 (.int 0)),
  (4, [.int 0, .ref 64, .ref 66, .ref 68, .ref 70, .ref 72, .ref 74]),
  (2, [.ref 65]),
  (20, List.replicate 4 (.int 0)),
  (2, [.ref 67]),
  (20, List.replicate 4 (.int 0)),
  (2, [.ref 69]),
  (20, List.replicate 4 (.int 0)),
  (2, [.ref 71]),
  (20, List.replicate 4 (.int 0)),
  (2, [.ref 73]),
  (20, List.replicate 40 (.int 0)),
  (2, [.ref 75]),
  (20, List.replicate 16 (.int 0)),
  (4, [.int 0, .ref 77, .ref 79, .ref 81, .ref 83, .ref 85, .ref 87]),
  (2, [.ref 78]),
  (20, List.replicate 4 (.int 0)),
  (2, [.ref 80]),
  (20, List.replicate 4 (.int 0)),
  (2, [.ref 82]),
  (20, List.replicate 4 (.int 0)),
  (2, [.ref 84]),
  (20, List.replicate 4 (.int 0)),
  (2, [.ref 86]),
  (20, List.replicate 40 (.int 0)),
  (2, [.ref 88]),
  (20, List.replicate 16 (.int 0)),
  (4, [.int 0, .ref 90, .ref 92, .ref 94, .ref 96, .ref 98, .ref 100]),
  (2, [.ref 91]),
  (20, List.replicate 4 (.int 0)),
  (2, [.ref 93]),
  (20, List.replicate 4 (.int 0)),
  (2, [.ref 95]),
  (20, List.replicate 4 (.int 0)),
  (2, [.ref 97]),
  (20, List.replicate 4 (.int 0)),
  (2, [.ref 99]),
  (20, List.replicate 40 (.int 0)),
  (2, [.ref 101]),
  (20, List.replicate 16 (.int 0)),
  (4, [.int 0, .ref 103, .ref 105, .ref 107, .ref 109, .ref 111, .ref 113]),
  (2, [.ref 104]),
  (20, List.replicate 4 (.int 0)),
  (2, [.ref 106]),
  (20, List.replicate 4 (.int 0)),
  (2, [.ref 108]),
  (20, List.replicate 4 (.int 0)),
  (2, [.ref 110]),
  (20, List.replicate 4 (.int 0)),
  (2, [.ref 112]),
  (20, List.replicate 40 (.int 0)),
  (2, [.ref 114]),
  (20, List.replicate 16 (.int 0)),
  (4, [.int 0, .ref 116, .ref 118, .ref 120, .ref 122, .ref 124, .ref 126]),
  (2, [.ref 117]),
  (20, List.replicate 4 (.int 0)),
  (2, [.ref 119]),
  (20, List.replicate 4 (.int 0)),
  (2, [.ref 121]),
  (20, List.replicate 4 (.int 0)),
  (2, [.ref 123]),
  (20, List.replicate 4 (.int 0)),
  (2, [.ref 125]),
  (20, List.replicate 40 (.int 0)),
  (2, [.ref 127]),
  (20, List.replicate 16 (.int 0)),
  (4, [.int 0, .ref 129, .ref 131, .ref 133, .ref 135, .ref 137, .ref 139]),
  (2, [.ref 130]),
  (20, List.replicate 4 (.int 0)),
  (2, [.ref 132]),
  (20, List.replicate 4 (.int 0)),
  (2, [.ref 134]),
  (20, List.replicate 4 (.int 0)),
  (2, [.ref 136]),
  (20, List.replicate 4 (.int 0)),
  (2, [.ref 138]),
  (20, List.replicate 40 (.int 0)),
  (2, [.ref 140]),
  (20, List.replicate 16 (.int 0))]
set_option maxRecDepth 1000000 in
theorem zck20 : zpreF (zevF 8) zpC6 44 14 45 [some (.ref 47), some (.int 5)] [] zw20 = some ([some (.ref 47), some (.int 6)], [.ref 128, .int 6, .ref 48], zw21) := by decide +kernel
def zw22 : zW := [
  (0, [.ref 1, .ref 4, .ref 19, .ref 34, .null, .null, .null, .null, .null]),
  (1, [.ref 2, .int 0, .int 0, .int 0, .int 0]),
  (2, [.ref 3]),
  (20, List.replicate 160 (.int 0)),
  (3, [.int 0, .int 0, .int 0, .int 9, .int 0, .ref 5, .ref 7, .ref 9, .ref 11, .ref 13, .ref 15, .ref 17]),
  (2, [.ref 6]),
  (20, List.replicate 10 (.int 0)),
  (2, [.ref 8]),
  (20, List.replicate 10 (.int 0)),
  (2, [.ref 10]),
  (20, List.replicate 4 (.int 0)),
  (2, [.ref 12]),
  (20, List.replicate 4 (.int 0)),
  (2, [.ref 14]),
  (20, List.replicate 6 (.int 0)),
  (2, [.ref 16]),
  (20, List.replicate 6 (.int 0)),
  (2, [.ref 18]),
  (20, List.replicate 6 (.int 0)),
  (3, [.int 0, .int 0, .int 0, .int 9, .int 0, .ref 20, .ref 22, .ref 24, .ref 26, .ref 28, .ref 30, .ref 32]),
  (2, [.ref 21]),
  (20, List.replicate 10 (.int 0)),
  (2, [.ref 23]),
  (20, List.replicate 10 (.int 0)),
  (2, [.ref 25]),
  (20, List.replicate 4 (.int 0)),
  (2, [.ref 27]),
  (20, List.replicate 4 (.int 0)),
  (2, [.ref 29]),
  (20, List.replicate 6 (.int 0)),
  (2, [.ref 31]),
  (20, List.replicate 6 (.int 0)),
  (2, [.ref 33]),
  (20, List.replicate 6 (.int 0)),
  (4, [.int 0, .ref 35, .ref 37, .ref 39, .ref 41, .ref 43, .ref 45]),
  (2, [.ref 36]),
  (20, List.replicate 4 (.int 0)),
  (2, [.ref 38]),
  (20, List.replicate 4 (.int 0)),
  (2, [.ref 40]),
  (20, List.replicate 4 (.int 0)),
  (2, [.ref 42]),
  (20, List.replicate 4 (.int 0)),
  (2, [.ref 44]),
  (20, List.replicate 40 (.int 0)),
  (2, [.ref 46]),
  (20, List.replicate 16 (.int 0)),
  (5, [.ref 48, .ref 49, .int 0, .int 0, .int 0]),
  (22, [.ref 50, .ref 63, .ref 76, .ref 89, .ref 102, .ref 115, .ref 128, .null]),
  (22, [.null, .null]),
  (4, [.int 0, .ref 51, .ref 53, .ref 55, .ref 57, .ref 59, .ref 61]),
  (2, [.ref 52]),
  (20, List.replicate 4 (.int 0)),
  (2, [.ref 54]),
  (20, List.replicate 4 (.int 0)),
  (2, [.ref 56]),
  (20, List.replicate 4 (.int 0)),
  (2, [.ref 58]),
  (20, List.replicate 4 (.int 0)),
  (2, [.ref 60]),
  (20, List.replicate 40 (.int 0)),
  (2, [.ref 62]),
  (20, List.replicate 16 (.int 0)),
  (4, [.int 0, .ref 64, .ref 66, .ref 68, .ref 70, .ref 72, .ref 74]),
  (2, [.ref 65]),
  (20, List.replicate 4 (.int 0)),
  (2, [.ref 67]),
  (20, List.replicate 4 (.int 0)),
  (2, [.ref 69]),
  (20, List.replicate 4 (.int 0)),
  (2, [.ref 71]),
  (20, List.replicate 4 (.int 0)),
  (2, [.ref 73]),
  (20, List.replicate 40 (.int 0)),
  (2, [.ref 75]),
  (20, List.replicate 16 (.int 0)),
  (4, [.int 0, .ref 77, .ref 79, .ref 81, .ref 83, .ref 85, .ref 87]),
  (2, [.ref 78]),
  (20, List.replicate 4 (.int 0)),
  (2, [.ref 80]),
  (20, List.replicate 4 (.int 0)),
  (2, [.ref 82]),
  (20, List.replicate 4 (.int 0)),
  (2, [.ref 84]),
  (20, List.replicate 4 (.int 0)),
  (2, [.ref 86]),
  (20, List.replicate 40 (.int 0)),
  (2, [.ref 88]),
  (20, List.replicate 16 (.int 0)),
  (4, [.int 0, .ref 90, .ref 92, .ref 94, .ref 96, .ref 98, .ref 100]),
  (2, [.ref 91]),
  (20, List.replicate 4 (.int 0)),
  (2, [.ref 93]),
  (20, List.replicate 4 (.int 0)),
  (2, [.ref 95]),
  (20, List.replicate 4 (.int 0)),
  (2, [.ref 97]),
  (20, List.replicate 4 (.int 0)),
  (2, [.ref 99]),
  (20, List.replicate 40 (.int 0)),
  (2, [.ref 101]),
  (20, List.replicate 16 (.int 0)),
  (4, [.int 0, .ref 103, .ref 105, .ref 107, .ref 109, .ref 111, .ref 113]),
  (2, [.ref 104]),
  (20, List.replicate 4 (.int 0)),
  (2, [.ref 106]),
  (20, List.replicate 4 (.int 0)),
  (2, [.ref 108]),
  (20, List.replicate 4 (.int 0)),
  (2, [.ref 110]),
  (20, List.replicate 4 (.int 0)),
  (2, [.ref 112]),
  (20, List.replicate 40 (.int 0)),
  (2, [.ref 114]),
  (20, List.replicate 16 (.int 0)),
  (4, [.int 0, .ref 116, .ref 118, .ref 120, .ref 122, .ref 124, .ref 126]),
  (2, [.ref 117]),
  (20, List.replicate 4 (.int 0)),
  (2, [.ref 119]),
  (20, List.replicate 4 (.int 0)),
  (2, [.ref 121]),
  (20, List.replicate 4 (.int 0)),
  (2, [.ref 123]),
  (20, List.replicate 4 (.int 0)),
  (2, [.ref 125]),
  (20, List.replicate 40 (.int 0)),
  (2, [.ref 127]),
  (20, List.replicate 16 (.int 0)),
  (4, [.int 0, .ref 129, .ref 131, .ref 133, .ref 135, .ref 137, .ref 139]),
  (2, [.ref 130]),
  (20, List.replicate 4 (.int 0)),
  (2, [.ref 132]),
  (20, List.replicate 4 (.int 0)),
  (2, [.ref 134]),
  (20, List.replicate 4 (.int 0)),
  (2, [.ref 136]),
  (20, List.replicate 4 (.int 0)),
  (2, [.ref 138]),
  (20, List.replicate 40 (.int 0)),
  (2, [.ref 140]),
  (20, List.replicate 16 (.int 0))]
set_option maxRecDepth 1000000 in
theorem zck21 : zpreF (zevF 8) zpC6 45 2 44 [some (.ref 47), some (.int 6)] [.ref 128, .int 6, .ref 48] zw21 = some ([some (.ref 47), some (.int 6)], [], zw22) := by decide +kernel
def zw23 : zW := [
  (0, [.ref 1, .ref 4, .ref 19, .ref 34, .null, .null, .null, .null, .null]),
  (1, [.ref 2, .int 0, .int 0, .int 0, .int 0]),
  (2, [.ref 3]),
  (20, List.replicate 160 (.int 0)),
  (3, [.int 0, .int 0, .int 0, .int 9, .int 0, .ref 5, .ref 7, .ref 9, .ref 11, .ref 13, .ref 15, .ref 17]),
  (2, [.ref 6]),
  (20, List.replicate 10 (.int 0)),
  (2, [.ref 8]),
  (20, List.replicate 10 (.int 0)),
  (2, [.ref 10]),
  (20, List.replicate 4 (.int 0)),
  (2, [.ref 12]),
  (20, List.replicate 4 (.int 0)),
  (2, [.ref 14]),
  (20, List.replicate 6 (.int 0)),
  (2, [.ref 16]),
  (20, List.replicate 6 (.int 0)),
  (2, [.ref 18]),
  (20, List.replicate 6 (.int 0)),
  (3, [.int 0, .int 0, .int 0, .int 9, .int 0, .ref 20, .ref 22, .ref 24, .ref 26, .ref 28, .ref 30, .ref 32]),
  (2, [.ref 21]),
  (20, List.replicate 10 (.int 0)),
  (2, [.ref 23]),
  (20, List.replicate 10 (.int 0)),
  (2, [.ref 25]),
  (20, List.replicate 4 (.int 0)),
  (2, [.ref 27]),
  (20, List.replicate 4 (.int 0)),
  (2, [.ref 29]),
  (20, List.replicate 6 (.int 0)),
  (2, [.ref 31]),
  (20, List.replicate 6 (.int 0)),
  (2, [.ref 33]),
  (20, List.replicate 6 (.int 0)),
  (4, [.int 0, .ref 35, .ref 37, .ref 39, .ref 41, .ref 43, .ref 45]),
  (2, [.ref 36]),
  (20, List.replicate 4 (.int 0)),
  (2, [.ref 38]),
  (20, List.replicate 4 (.int 0)),
  (2, [.ref 40]),
  (20, List.replicate 4 (.int 0)),
  (2, [.ref 42]),
  (20, List.replicate 4 (.int 0)),
  (2, [.ref 44]),
  (20, List.replicate 40 (.int 0)),
  (2, [.ref 46]),
  (20, List.replicate 16 (.int 0)),
  (5, [.ref 48, .ref 49, .int 0, .int 0, .int 0]),
  (22, [.ref 50, .ref 63, .ref 76, .ref 89, .ref 102, .ref 115, .ref 128, .null]),
  (22, [.null, .null]),
  (4, [.int 0, .ref 51, .ref 53, .ref 55, .ref 57, .ref 59, .ref 61]),
  (2, [.ref 52]),
  (20, List.replicate 4 (.int 0)),
  (2, [.ref 54]),
  (20, List.replicate 4 (.int 0)),
  (2, [.ref 56]),
  (20, List.replicate 4 (.int 0)),
  (2, [.ref 58]),
  (20, List.replicate 4 (.int 0)),
  (2, [.ref 60]),
  (20, List.replicate 40 (.int 0)),
  (2, [.ref 62]),
  (20, List.replicate 16 (.int 0)),
  (4, [.int 0, .ref 64, .ref 66, .ref 68, .ref 70, .ref 72, .ref 74]),
  (2, [.ref 65]),
  (20, List.replicate 4 (.int 0)),
  (2, [.ref 67]),
  (20, List.replicate 4 (.int 0)),
  (2, [.ref 69]),
  (20, List.replicate 4 (.int 0)),
  (2, [.ref 71]),
  (20, List.replicate 4 (.int 0)),
  (2, [.ref 73]),
  (20, List.replicate 40 (.int 0)),
  (2, [.ref 75]),
  (20, List.replicate 16 (.int 0)),
  (4, [.int 0, .ref 77, .ref 79, .ref 81, .ref 83, .ref 85, .ref 87]),
  (2, [.ref 78]),
  (20, List.replicate 4 (.int 0)),
  (2, [.ref 80]),
  (20, List.replicate 4 (.int 0)),
  (2, [.ref 82]),
  (20, List.replicate 4 (.int 0)),
  (2, [.ref 84]),
  (20, List.replicate 4 (.int 0)),
  (2, [.ref 86]),
  (20, List.replicate 40 (.int 0)),
  (2, [.ref 88]),
  (20, List.replicate 16 (.int 0)),
  (4, [.int 0, .ref 90, .ref 92, .ref 94, .ref 96, .ref 98, .ref 100]),
  (2, [.ref 91]),
  (20, List.replicate 4 (.int 0)),
  (2, [.ref 93]),
  (20, List.replicate 4 (.int 0)),
  (2, [.ref 95]),
  (20, List.replicate 4 (.int 0)),
  (2, [.ref 97]),
  (20, List.replicate 4 (.int 0)),
  (2, [.ref 99]),
  (20, List.replicate 40 (.int 0)),
  (2, [.ref 101]),
  (20, List.replicate 16 (.int 0)),
  (4, [.int 0, .ref 103, .ref 105, .ref 107, .ref 109, .ref 111, .ref 113]),
  (2, [.ref 104]),
  (20, List.replicate 4 (.int 0)),
  (2, [.ref 106]),
  (20, List.replicate 4 (.int 0)),
  (2, [.ref 108]),
  (20, List.replicate 4 (.int 0)),
  (2, [.ref 110]),
  (20, List.replicate 4 (.int 0)),
  (2, [.ref 112]),
  (20, List.replicate 40 (.int 0)),
  (2, [.ref 114]),
  (20, List.replicate 16 (.int 0)),
  (4, [.int 0, .ref 116, .ref 118, .ref 120, .ref 122, .ref 124, .ref 126]),
  (2, [.ref 117]),
  (20, List.replicate 4 (.int 0)),
  (2, [.ref 119]),
  (20, List.replicate 4 (.int 0)),
  (2, [.ref 121]),
  (20, List.replicate 4 (.int 0)),
  (2, [.ref 123]),
  (20, List.replicate 4 (.int 0)),
  (2, [.ref 125]),
  (20, List.replicate 40 (.int 0)),
  (2, [.ref 127]),
  (20, List.replicate 16 (.int 0)),
  (4, [.int 0, .ref 129, .ref 131, .ref 133, .ref 135, .ref 137, .ref 139]),
  (2, [.ref 130]),
  (20, List.replicate 4 (.int 0)),
  (2, [.ref 132]),
  (20, List.replicate 4 (.int 0)),
  (2, [.ref 134]),
  (20, List.replicate 4 (.int 0)),
  (2, [.ref 136]),
  (20, List.replicate 4 (.int 0)),
  (2, [.ref 138]),
  (20, List.replicate 40 (.int 0)),
  (2, [.ref 140]),
  (20, List.replicate 16 (.int 0)),
  (4, [.int 0, .ref 142, .ref 144, .ref 146, .ref 148, .ref 150, .ref 152]),
  (2, [.ref 143]),
  (20, List.replicate 4 (.int 0)),
  (2, [.ref 145]),
  (20, List.replicate 4 (.int 0)),
  (2, [.ref 147]),
  (20, List.replicate 4 (.int 0)),
  (2, [.ref 149]),
  (20, List.replicate 4 (.int 0)),
  (2, [.ref 151]),
  (20, List.replicate 40 (.int 0)),
  (2, [.ref 153]),
  (20, List.replicate 16 (.int 0))]
set_option maxRecDepth 1000000 in
theorem zck22 : zpreF (zevF 8) zpC6 44 14 45 [some (.ref 47), some (.int 6)] [] zw22 = some ([some (.ref 47), some (.int 7)], [.ref 141, .int 7, .ref 48], zw23) := by decide +kernel
def zw24 : zW := [
  (0, [.ref 1, .ref 4, .ref 19, .ref 34, .null, .null, .null, .null, .null]),
  (1, [.ref 2, .int 0, .int 0, .int 0, .int 0]),
  (2, [.ref 3]),
  (20, List.replicate 160 (.int 0)),
  (3, [.int 0, .int 0, .int 0, .int 9, .int 0, .ref 5, .ref 7, .ref 9, .ref 11, .ref 13, .ref 15, .ref 17]),
  (2, [.ref 6]),
  (20, List.replicate 10 (.int 0)),
  (2, [.ref 8]),
  (20, List.replicate 10 (.int 0)),
  (2, [.ref 10]),
  (20, List.replicate 4 (.int 0)),
  (2, [.ref 12]),
  (20, List.replicate 4 (.int 0)),
  (2, [.ref 14]),
  (20, List.replicate 6 (.int 0)),
  (2, [.ref 16]),
  (20, List.replicate 6 (.int 0)),
  (2, [.ref 18]),
  (20, List.replicate 6 (.int 0)),
  (3, [.int 0, .int 0, .int 0, .int 9, .int 0, .ref 20, .ref 22, .ref 24, .ref 26, .ref 28, .ref 30, .ref 32]),
  (2, [.ref 21]),
  (20, List.replicate 10 (.int 0)),
  (2, [.ref 23]),
  (20, List.replicate 10 (.int 0)),
  (2, [.ref 25]),
  (20, List.replicate 4 (.int 0)),
  (2, [.ref 27]),
  (20, List.replicate 4 (.int 0)),
  (2, [.ref 29]),
  (20, List.replicate 6 (.int 0)),
  (2, [.ref 31]),
  (20, List.replicate 6 (.int 0)),
  (2, [.ref 33]),
  (20, List.replicate 6 (.int 0)),
  (4, [.int 0, .ref 35, .ref 37, .ref 39, .ref 41, .ref 43, .ref 45]),
  (2, [.ref 36]),
  (20, List.replicate 4 (.int 0)),
  (2, [.ref 38]),
  (20, List.replicate 4 (.int 0)),
  (2, [.ref 40]),
  (20, List.replicate 4 (.int 0)),
  (2, [.ref 42]),
  (20, List.replicate 4 (.int 0)),
  (2, [.ref 44]),
  (20, List.replicate 40 (.int 0)),
  (2, [.ref 46]),
  (20, List.replicate 16 (.int 0)),
  (5, [.ref 48, .ref 49, .int 0, .int 0, .int 0]),
  (22, [.ref 50, .ref 63, .ref 76, .ref 89, .ref 102, .ref 115, .ref 128, .ref 141]),
  (22, [.null, .null]),
  (4, [.int 0, .ref 51, .ref 53, .ref 55, .ref 57, .ref 59, .ref 61]),
  (2, [.ref 52]),
  (20, List.replicate 4 (.int 0)),
  (2, [.ref 54]),
  (20, List.replicate 4 (.int 0)),
  (2, [.ref 56]),
  (20, List.replicate 4 (.int 0)),
  (2, [.ref 58]),
  (20, List.replicate 4 (.int 0)),
  (2, [.ref 60]),
  (20, List.replicate 40 (.int 0)),
  (2, [.ref 62]),
  (20, List.replicate 16 (.int 0)),
  (4, [.int 0, .ref 64, .ref 66, .ref 68, .ref 70, .ref 72, .ref 74]),
  (2, [.ref 65]),
  (20, List.replicate 4 (.int 0)),
  (2, [.ref 67]),
  (20, List.replicate 4 (.int 0)),
  (2, [.ref 69]),
  (20, List.replicate 4 (.int 0)),
  (2, [.ref 71]),
  (20, List.replicate 4 (.int 0)),
  (2, [.ref 73]),
  (20, List.replicate 40 (.int 0)),
  (2, [.ref 75]),
  (20, List.replicate 16 (.int 0)),
  (4, [.int 0, .ref 77, .ref 79, .ref 81, .ref 83, .ref 85, .ref 87]),
  (2, [.ref 78]),
  (20, List.replicate 4 (.int 0)),
  (2, [.ref 80]),
  (20, List.replicate 4 (.int 0)),
  (2, [.ref 82]),
  (20, List.replicate 4 (.int 0)),
  (2, [.ref 84]),
  (20, List.replicate 4 (.int 0)),
  (2, [.ref 86]),
  (20, List.replicate 40 (.int 0)),
  (2, [.ref 88]),
  (20, List.replicate 16 (.int 0)),
  (4, [.int 0, .ref 90, .ref 92, .ref 94, .ref 96, .ref 98, .ref 100]),
  (2, [.ref 91]),
  (20, List.replicate 4 (.int 0)),
  (2, [.ref 93]),
  (20, List.replicate 4 (.int 0)),
  (2, [.ref 95]),
  (20, List.replicate 4 (.int 0)),
  (2, [.ref 97]),
  (20, List.replicate 4 (.int 0)),
  (2, [.ref 99]),
  (20, List.replicate 40 (.int 0)),
  (2, [.ref 101]),
  (20, List.replicate 16 (.int 0)),
  (4, [.int 0, .ref 103, .ref 105, .ref 107, .ref 109, .ref 111, .ref 113]),
  (2, [.ref 104]),
  (20, List.replicate 4 (.int 0)),
  (2, [.ref 106]),
  (20, List.replicate 4 (.int 0)),
  (2, [.ref 108]),
  (20, List.replicate 4 (.int 0)),
  (2, [.ref 110]),
  (20, List.replicate 4 (.int 0)),
  (2, [.ref 112]),
  (20, List.replicate 40 (.int 0)),
  (2, [.ref 114]),
  (20, List.replicate 16 (.int 0)),
  (4, [.int 0, .ref 116, .ref 118, .ref 120, .ref 122, .ref 124, .ref 126]),
  (2, [.ref 117]),
  (20, List.replicate 4 (.int 0)),
  (2, [.ref 119]),
  (20, List.replicate 4 (.int 0)),
  (2, [.ref 121]),
  (20, List.replicate 4 (.int 0)),
  (2, [.ref 123]),
  (20, List.replicate 4 (.int 0)),
  (2, [.ref 125]),
  (20, List.replicate 40 (.int 0)),
  (2, [.ref 127]),
  (20, List.replicate 16 (.int 0)),
  (4, [.int 0, .ref 129, .ref 131, .ref 133, .ref 135, .ref 137, .ref 139]),
  (2, [.ref 130]),
  (20, List.replicate 4 (.int 0)),
  (2, [.ref 132]),
  (20, List.replicate 4 (.int 0)),
  (2, [.ref 134]),
  (20, List.replicate 4 (.int 0)),
  (2, [.ref 136]),
  (20, List.replicate 4 (.int 0)),
  (2, [.ref 138]),
  (20, List.replicate 40 (.int 0)),
  (2, [.ref 140]),
  (20, List.replicate 16 (.int 0)),
  (4, [.int 0, .ref 142, .ref 144, .ref 146, .ref 148, .ref 150, .ref 152]),
  (2, [.ref 143]),
  (20, List.replicate 4 (.int 0)),
  (2, [.ref 145]),
  (20, List.replicate 4 (.int 0)),
  (2, [.ref 147]),
  (20, List.replicate 4 (.int 0)),
  (2, [.ref 149]),
  (20, List.replicate 4 (.int 0)),
  (2, [.ref 151]),
  (20, List.replicate 40 (.int 0)),
  (2, [.ref 153]),
  (20, List.replicate 16 (.int 0))]
set_option maxRecDepth 1000000 in
theorem zck23 : zpreF (zevF 8) zpC6 45 2 44 [some (.ref 47), some (.int 7)] [.ref 141, .int 7, .ref 48] zw23 = some ([some (.ref 47), some (.int 7)], [], zw24) := by decide +kernel
def zw25 : zW := [
  (0, [.ref 1, .ref 4, .ref 19, .ref 34, .null, .null, .null, .null, .null]),
  (1, [.ref 2, .int 0, .int 0, .int 0, .int 0]),
  (2, [.ref 3]),
  (20, List.replicate 160 (.int 0)),
  (3, [.int 0, .int 0, .int 0, .int 9, .int 0, .ref 5, .ref 7, .ref 9, .ref 11, .ref 13, .ref 15, .ref 17]),
  (2, [.ref 6]),
  (20, List.replicate 10 (.int 0)),
  (2, [.ref 8]),
  (20, List.replicate 10 (.int 0)),
  (2, [.ref 10]),
  (20, List.replicate 4 (.int 0)),
  (2, [.ref 12]),
  (20, List.replicate 4 (.int 0)),
  (2, [.ref 14]),
  (20, List.replicate 6 (.int 0)),
  (2, [.ref 16]),
  (20, List.replicate 6 (.int 0)),
  (2, [.ref 18]),
  (20, List.replicate 6 (.int 0)),
  (3, [.int 0, .int 0, .int 0, .int 9, .int 0, .ref 20, .ref 22, .ref 24, .ref 26, .ref 28, .ref 30, .ref 32]),
  (2, [.ref 21]),
  (20, List.replicate 10 (.int 0)),
  (2, [.ref 23]),
  (20, List.replicate 10 (.int 0)),
  (2, [.ref 25]),
  (20, List.replicate 4 (.int 0)),
  (2, [.ref 27]),
  (20, List.replicate 4 (.int 0)),
  (2, [.ref 29]),
  (20, List.replicate 6 (.int 0)),
  (2, [.ref 31]),
  (20, List.replicate 6 (.int 0)),
  (2, [.ref 33]),
  (20, List.replicate 6 (.int 0)),
  (4, [.int 0, .ref 35, .ref 37, .ref 39, .ref 41, .ref 43, .ref 45]),
  (2, [.ref 36]),
  (20, List.replicate 4 (.int 0)),
  (2, [.ref 38]),
  (20, List.replicate 4 (.int 0)),
  (2, [.ref 40]),
  (20, List.replicate 4 (.int 0)),
  (2, [.ref 42]),
  (20, List.replicate 4 (.int 0)),
  (2, [.ref 44]),
  (20, List.replicate 40 (.int 0)),
  (2, [.ref 46]),
  (20, List.replicate 16 (.int 0)),
  (5, [.ref 48, .ref 49, .int 0, .int 0, .int 0]),
  (22, [.ref 50, .ref 63, .ref 76, .ref 89, .ref 102, .ref 115, .ref 128, .ref 141]),
  (22, [.null, .null]),
  (4, [.int 0, .ref 51, .ref 53, .ref 55, .ref 57, .ref 59, .ref 61]),
  (2, [.ref 52]),
  (20, List.replicate 4 (.int 0)),
  (2, [.ref 54]),
  (20, List.replicate 4 (.int 0)),
  (2, [.ref 56]),
  (20, List.replicate 4 (.int 0)),
  (2, [.ref 58]),
  (20, List.replicate 4 (.int 0)),
  (2, [.ref 60]),
  (20, List.replicate 40 (.int 0)),
  (2, [.ref 62]),
  (20, List.replicate 16 (.int 0)),
  (4, [.int 0, .ref 64, .ref 66, .ref 68, .ref 70, .ref 72, .ref 74]),
  (2, [.ref 65]),
  (20, List.replicate 4 (.int 0)),
  (2, [.ref 67]),
  (20, List.replicate 4 (.int 0)),
  (2, [.ref 69]),
  (20, List.replicate 4 (.int 0)),
  (2, [.ref 71]),
  (20, List.replicate 4 (.int 0)),
  (2, [.ref 73]),
  (20, List.replicate 40 (.int 0)),
  (2, [.ref 75]),
  (20, List.replicate 16 (.int 0)),
  (4, [.int 0, .ref 77, .ref 79, .ref 81, .ref 83, .ref 85, .ref 87]),
  (2, [.ref 78]),
  (20, List.replicate 4 (.int 0)),
  (2, [.ref 80]),
  (20, List.replicate 4 (.int 0)),
  (2, [.ref 82]),
  (20, List.replicate 4 (.int 0)),
  (2, [.ref 84]),
  (20, List.replicate 4 (.int 0)),
  (2, [.ref 86]),
  (20, List.replicate 40 (.int 0)),
  (2, [.ref 88]),
  (20, List.replicate 16 (.int 0)),
  (4, [.int 0, .ref 90, .ref 92, .ref 94, .ref 96, .ref 98, .ref 100]),
  (2, [.ref 91]),
  (20, List.replicate 4 (.int 0)),
  (2, [.ref 93]),
  (20, List.replicate 4 (.int 0)),
  (2, [.ref 95]),
  (20, List.replicate 4 (.int 0)),
  (2, [.ref 97]),
  (20, List.replicate 4 (.int 0)),
  (2, [.ref 99]),
  (20, List.replicate 40 (.int 0)),
  (2, [.ref 101]),
  (20, List.replicate 16 (.int 0)),
  (4, [.int 0, .ref 103, .ref 105, .ref 107, .ref 109, .ref 111, .ref 113]),
  (2, [.ref 104]),
  (20, List.replicate 4 (.int 0)),
  (2, [.ref 106]),
  (20, List.replicate 4 (.int 0)),
  (2, [.ref 108]),
  (20, List.replicate 4 (.int 0)),
  (2, [.ref 110]),
  (20, List.replicate 4 (.int 0)),
  (2, [.ref 112]),
  (20, List.replicate 40 (.int 0)),
  (2, [.ref 114]),
  (20, List.replicate 16 (.int 0)),
  (4, [.int 0, .ref 116, .ref 118, .ref 120, .ref 122, .ref 124, .ref 126]),
  (2, [.ref 117]),
  (20, List.replicate 4 (.int 0)),
  (2, [.ref 119]),
  (20, List.replicate 4 (.int 0)),
  (2, [.ref 121]),
  (20, List.replicate 4 (.int 0)),
  (2, [.ref 123]),
  (20, List.replicate 4 (.int 0)),
  (2, [.ref 125]),
  (20, List.replicate 40 (.int 0)),
  (2, [.ref 127]),
  (20, List.replicate 16 (.int 0)),
  (4, [.int 0, .ref 129, .ref 131, .ref 133, .ref 135, .ref 137, .ref 139]),
  (2, [.ref 130]),
  (20, List.replicate 4 (.int 0)),
  (2, [.ref 132]),
  (20, List.replicate 4 (.int 0)),
  (2, [.ref 134]),
  (20, List.replicate 4 (.int 0)),
  (2, [.ref 136]),
  (20, List.replicate 4 (.int 0)),
  (2, [.ref 138]),
  (20, List.replicate 40 (.int 0)),
  (2, [.ref 140]),
  (20, List.replicate 16 (.int 0)),
  (4, [.int 0, .ref 142, .ref 144, .ref 146, .ref 148, .ref 150, .ref 152]),
  (2, [.ref 143]),
  (20, List.replicate 4 (.int 0)),
  (2, [.ref 145]),
  (20, List.replicate 4 (.int 0)),
  (2, [.ref 147]),
  (20, List.replicate 4 (.int 0)),
  (2, [.ref 149]),
  (20, List.replicate 4 (.int 0)),
  (2, [.ref 151]),
  (20, List.replicate 40 (.int 0)),
  (2, [.ref 153]),
  (20, List.replicate 16 (.int 0)),
  (4, [.int 0, .ref 155, .ref 157, .ref 159, .ref 161, .ref 163, .ref 165]),
  (2, [.ref 156]),
  (20, List.replicate 4 (.int 0)),
  (2, [.ref 158]),
  (20, List.replicate 4 (.int 0)),
  (2, [.ref 160]),
  (20, List.replicate 4 (.int 0)),
  (2, [.ref 162]),
  (20, List.replicate 4 (.int 0)),
  (2, [.ref 164]),
  (20, List.replicate 40 (.int 0)),
  (2, [.ref 166]),
  (20, List.replicate 16 (.int 0))]
set_option maxRecDepth 1000000 in
theorem zck24 : zpreF (zevF 8) zpC6 74 21 45 [some (.ref 47), some (.int 7)] [] zw24 = some ([some (.ref 47), some (.int 0)], [.ref 154, .int 0, .ref 49], zw25) := by decide +kernel
def zw26 : zW := [
  (0, [.ref 1, .ref 4, .ref 19, .ref 34, .null, .null, .null, .null, .null]),
  (1, [.ref 2, .int 0, .int 0, .int 0, .int 0]),
  (2, [.ref 3]),
  (20, List.replicate 160 (.int 0)),
  (3, [.int 0, .int 0, .int 0, .int 9, .int 0, .ref 5, .ref 7, .ref 9, .ref 11, .ref 13, .ref 15, .ref 17]),
  (2, [.ref 6]),
  (20, List.replicate 10 (.int 0)),
  (2, [.ref 8]),
  (20, List.replicate 10 (.int 0)),
  (2, [.ref 10]),
  (20, List.replicate 4 (.int 0)),
  (2, [.ref 12]),
  (20, List.replicate 4 (.int 0)),
  (2, [.ref 14]),
  (20, List.replicate 6 (.int 0)),
  (2, [.ref 16]),
  (20, List.replicate 6 (.int 0)),
  (2, [.ref 18]),
  (20, List.replicate 6 (.int 0)),
  (3, [.int 0, .int 0, .int 0, .int 9, .int 0, .ref 20, .ref 22, .ref 24, .ref 26, .ref 28, .ref 30, .ref 32]),
  (2, [.ref 21]),
  (20, List.replicate 10 (.int 0)),
  (2, [.ref 23]),
  (20, List.replicate 10 (.int 0)),
  (2, [.ref 25]),
  (20, List.replicate 4 (.int 0)),
  (2, [.ref 27]),
  (20, List.replicate 4 (.int 0)),
  (2, [.ref 29]),
  (20, List.replicate 6 (.int 0)),
  (2, [.ref 31]),
  (20, List.replicate 6 (.int 0)),
  (2, [.ref 33]),
  (20, List.replicate 6 (.int 0)),
  (4, [.int 0, .ref 35, .ref 37, .ref 39, .ref 41, .ref 43, .ref 45]),
  (2, [.ref 36]),
  (20, List.replicate 4 (.int 0)),
  (2, [.ref 38]),
  (20, List.replicate 4 (.int 0)),
  (2, [.ref 40]),
  (20, List.replicate 4 (.int 0)),
  (2, [.ref 42]),
  (20, List.replicate 4 (.int 0)),
  (2, [.ref 44]),
  (20, List.replicate 40 (.int 0)),
  (2, [.ref 46]),
  (20, List.replicate 16 (.int 0)),
  (5, [.ref 48, .ref 49, .int 0, .int 0, .int 0]),
  (22, [.ref 50, .ref 63, .ref 76, .ref 89, .ref 102, .ref 115, .ref 128, .ref 141]),
  (22, [.ref 154, .null]),
  (4, [.int 0, .ref 51, .ref 53, .ref 55, .ref 57, .ref 59, .ref 61]),
  (2, [.ref 52]),
  (20, List.replicate 4 (.int 0)),
  (2, [.ref 54]),
  (20, List.replicate 4 (.int 0)),
  (2, [.ref 56]),
  (20, List.replicate 4 (.int 0)),
  (2, [.ref 58]),
  (20, List.replicate 4 (.int 0)),
  (2, [.ref 60]),
  (20, List.replicate 40 (.int 0)),
  (2, [.ref 62]),
  (20, List.replicate 16 (.int 0)),
  (4, [.int 0, .ref 64, .ref 66, .ref 68, .ref 70, .ref 72, .ref 74]),
  (2, [.ref 65]),
  (20, List.replicate 4 (.int 0)),
  (2, [.ref 67]),
  (20, List.replicate 4 (.int 0)),
  (2, [.ref 69]),
  (20, List.replicate 4 (.int 0)),
  (2, [.ref 71]),
  (20, List.replicate 4 (.int 0)),
  (2, [.ref 73]),
  (20, List.replicate 40 (.int 0)),
  (2, [.ref 75]),
  (20, List.replicate 16 (.int 0)),
  (4, [.int 0, .ref 77, .ref 79, .ref 81, .ref 83, .ref 85, .ref 87]),
  (2, [.ref 78]),
  (20, List.replicate 4 (.int 0)),
  (2, [.ref 80]),
  (20, List.replicate 4 (.int 0)),
  (2, [.ref 82]),
  (20, List.replicate 4 (.int 0)),
  (2, [.ref 84]),
  (20, List.replicate 4 (.int 0)),
  (2, [.ref 86]),
  (20, List.replicate 40 (.int 0)),
  (2, [.ref 88]),
  (20, List.replicate 16 (.int 0)),
  (4, [.int 0, .ref 90, .ref 92, .ref 94, .ref 96, .ref 98, .ref 100]),
  (2, [.ref 91]),
  (20, List.replicate 4 (.int 0)),
  (2, [.ref 93]),
  (20, List.replicate 4 (.int 0)),
  (2, [.ref 95]),
  (20, List.replicate 4 (.int 0)),
  (2, [.ref 97]),
  (20, List.replicate 4 (.int 0)),
  (2, [.ref 99]),
  (20, List.replicate 40 (.int 0)),
  (2, [.ref 101]),
  (20, List.replicate 16 (.int 0)),
  (4, [.int 0, .ref 103, .ref 105, .ref 107, .ref 109, .ref 111, .ref 113]),
  (2, [.ref 104]),
  (20, List.replicate 4 (.int 0)),
  (2, [.ref 106]),
  (20, List.replicate 4 (.int 0)),
  (2, [.ref 108]),
  (20, List.replicate 4 (.int 0)),
  (2, [.ref 110]),
  (20, List.replicate 4 (.int 0)),
  (2, [.ref 112]),
  (20, List.replicate 40 (.int 0)),
  (2, [.ref 114]),
  (20, List.replicate 16 (.int 0)),
  (4, [.int 0, .ref 116, .ref 118, .ref 120, .ref 122, .ref 124, .ref 126]),
  (2, [.ref 117]),
  (20, List.replicate 4 (.int 0)),
  (2, [.ref 119]),
  (20, List.replicate 4 (.int 0)),
  (2, [.ref 121]),
  (20, List.replicate 4 (.int 0)),
  (2, [.ref 123]),
  (20, List.replicate 4 (.int 0)),
  (2, [.ref 125]),
  (20, List.replicate 40 (.int 0)),
  (2, [.ref 127]),
  (20, List.replicate 16 (.int 0)),
  (4, [.int 0, .ref 129, .ref 131, .ref 133, .ref 135, .ref 137, .ref 139]),
  (2, [.ref 130]),
  (20, List.replicate 4 (.int 0)),
  (2, [.ref 132]),
  (20, List.replicate 4 (.int 0)),
  (2, [.ref 134]),
  (20, List.replicate 4 (.int 0)),
  (2, [.ref 136]),
  (20, List.replicate 4 (.int 0)),
  (2, [.ref 138]),
  (20, List.replicate 40 (.int 0)),
  (2, [.ref 140]),
  (20, List.replicate 16 (.int 0)),
  (4, [.int 0, .ref 142, .ref 144, .ref 146, .ref 148, .ref 150, .ref 152]),
  (2, [.ref 143]),
  (20, List.replicate 4 (.int 0)),
  (2, [.ref 145]),
  (20, List.replicate 4 (.int 0)),
  (2, [.ref 147]),
  (20, List.replicate 4 (.int 0)),
  (2, [.ref 149]),
  (20, List.replicate 4 (.int 0)),
  (2, [.ref 151]),
  (20, List.replicate 40 (.int 0)),
  (2, [.ref 153]),
  (20, List.replicate 16 (.int 0)),
  (4, [.int 0, .ref 155, .ref 157, .ref 159, .ref 161, .ref 163, .ref 165]),
  (2, [.ref 156]),
  (20, List.replicate 4 (.int 0)),
  (2, [.ref 158]),
  (20, List.replicate 4 (.int 0)),
  (2, [.ref 160]),
  (20, List.replicate 4 (.int 0)),
  (2, [.ref 162]),
  (20, List.replicate 4 (.int 0)),
  (2, [.ref 164]),
  (20, List.replicate 40 (.int 0)),
  (2, [.ref 166]),
  (20, List.replicate 16 (.int 0))]
set_option maxRecDepth 1000000 in
theorem zck25 : zpreF (zevF 8) zpC6 75 2 74 [some (.ref 47), some (.int 0)] [.ref 154, .int 0, .ref 49] zw25 = some ([some (.ref 47), some (.int 0)], [], zw26) := by decide +kernel
def zw27 : zW := [
  (0, [.ref 1, .ref 4, .ref 19, .ref 34, .null, .null, .null, .null, .null]),
  (1, [.ref 2, .int 0, .int 0, .int 0, .int 0]),
  (2, [.ref 3]),
  (20, List.replicate 160 (.int 0)),
  (3, [.int 0, .int 0, .int 0, .int 9, .int 0, .ref 5, .ref 7, .ref 9, .ref 11, .ref 13, .ref 15, .ref 17]),
  (2, [.ref 6]),
  (20, List.replicate 10 (.int 0)),
  (2, [.ref 8]),
  (20, List.replicate 10 (.int 0)),
  (2, [.ref 10]),
  (20, List.replicate 4 (.int 0)),
  (2, [.ref 12]),
  (20, List.replicate 4 (.int 0)),
  (2, [.ref 14]),
  (20, List.replicate 6 (.int 0)),
  (2, [.ref 16]),
  (20, List.replicate 6 (.int 0)),
  (2, [.ref 18]),
  (20, List.replicate 6 (.int 0)),
  (3, [.int 0, .int 0, .int 0, .int 9, .int 0, .ref 20, .ref 22, .ref 24, .ref 26, .ref 28, .ref 30, .ref 32]),
  (2, [.ref 21]),
  (20, List.replicate 10 (.int 0)),
  (2, [.ref 23]),
  (20, List.replicate 10 (.int 0)),
  (2, [.ref 25]),
  (20, List.replicate 4 (.int 0)),
  (2, [.ref 27]),
  (20, List.replicate 4 (.int 0)),
  (2, [.ref 29]),
  (20, List.replicate 6 (.int 0)),
  (2, [.ref 31]),
  (20, List.replicate 6 (.int 0)),
  (2, [.ref 33]),
  (20, List.replicate 6 (.int 0)),
  (4, [.int 0, .ref 35, .ref 37, .ref 39, .ref 41, .ref 43, .ref 45]),
  (2, [.ref 36]),
  (20, List.replicate 4 (.int 0)),
  (2, [.ref 38]),
  (20, List.replicate 4 (.int 0)),
  (2, [.ref 40]),
  (20, List.replicate 4 (.int 0)),
  (2, [.ref 42]),
  (20, List.replicate 4 (.int 0)),
  (2, [.ref 44]),
  (20, List.replicate 40 (.int 0)),
  (2, [.ref 46]),
  (20, List.replicate 16 (.int 0)),
  (5, [.ref 48, .ref 49, .int 0, .int 0, .int 0]),
  (22, [.ref 50, .ref 63, .ref 76, .ref 89, .ref 102, .ref 115, .ref 128, .ref 141]),
  (22, [.ref 154, .null]),
  (4, [.int 0, .ref 51, .ref 53, .ref 55, .ref 57, .ref 59, .ref 61]),
  (2, [.ref 52]),
  (20, List.replicate 4 (.int 0)),
  (2, [.ref 54]),
  (20, List.replicate 4 (.int 0)),
  (2, [.ref 56]),
  (20, List.replicate 4 (.int 0)),
  (2, [.ref 58]),
  (20, List.replicate 4 (.int 0)),
  (2, [.ref 60]),
  (20, List.replicate 40 (.int 0)),
  (2, [.ref 62]),
  (20, List.replicate 16 (.int 0)),
  (4, [.int 0, .ref 64, .ref 66, .ref 68, .ref 70, .ref 72, .ref 74]),
  (2, [.ref 65]),
  (20, List.replicate 4 (.int 0)),
  (2, [.ref 67]),
  (20, List.replicate 4 (.int 0)),
  (2, [.ref 69]),
  (20, List.replicate 4 (.int 0)),
  (2, [.ref 71]),
  (20, List.replicate 4 (.int 0)),
  (2, [.ref 73]),
  (20, List.replicate 40 (.int 0)),
  (2, [.ref 75]),
  (20, List.replicate 16 (.int 0)),
  (4, [.int 0, .ref 77, .ref 79, .ref 81, .ref 83, .ref 85, .ref 87]),
  (2, [.ref 78]),
  (20, List.replicate 4 (.int 0)),
  (2, [.ref 80]),
  (20, List.replicate 4 (.int 0)),
  (2, [.ref 82]),
  (20, List.replicate 4 (.int 0)),
  (2, [.ref 84]),
  (20, List.replicate 4 (.int 0)),
  (2, [.ref 86]),
  (20, List.replicate 40 (.int 0)),
  (2, [.ref 88]),
  (20, List.replicate 16 (.int 0)),
  (4, [.int 0, .ref 90, .ref 92, .ref 94, .ref 96, .ref 98, .ref 100]),
  (2, [.ref 91]),
  (20, List.replicate 4 (.int 0)),
  (2, [.ref 93]),
  (20, List.replicate 4 (.int 0)),
  (2, [.ref 95]),
  (20, List.replicate 4 (.int 0)),
  (2, [.ref 97]),
  (20, List.replicate 4 (.int 0)),
  (2, [.ref 99]),
  (20, List.replicate 40 (.int 0)),
  (2, [.ref 101]),
  (20, List.replicate 16 (.int 0)),
  (4, [.int 0, .ref 103, .ref 105, .ref 107, .ref 109, .ref 111, .ref 113]),
  (2, [.ref 104]),
  (20, List.replicate 4 (.int 0)),
  (2, [.ref 106]),
  (20, List.replicate 4 (.int 0)),
  (2, [.ref 108]),
  (20, List.replicate 4 (.int 0)),
  (2, [.ref 110]),
  (20, List.replicate 4 (.int 0)),
  (2, [.ref 112]),
  (20, List.replicate 40 (.int 0)),
  (2, [.ref 114]),
  (20, List.replicate 16 (.int 0)),
  (4, [.int 0, .ref 116, .ref 118, .ref 120, .ref 122, .ref 124, .ref 126]),
  (2, [.ref 117]),
  (20, List.replicate 4 (.int 0)),
  (2, [.ref 119]),
  (20, List.replicate 4 (.int 0)),
  (2, [.ref 121]),
  (20, List.replicate 4 (.int 0)),
  (2, [.ref 123]),
  (20, List.replicate 4 (.int 0)),
  (2, [.ref 125]),
  (20, List.replicate 40 (.int 0)),
  (2, [.ref 127]),
  (20, List.replicate 16 (.int 0)),
  (4, [.int 0, .ref 129, .ref 131, .ref 133, .ref 135, .ref 137, .ref 139]),
  (2, [.ref 130]),
  (20, List.replicate 4 (.int 0)),
  (2, [.ref 132]),
  (20, List.replicate 4 (.int 0)),
  (2, [.ref 134]),
  (20, List.replicate 4 (.int 0)),
  (2, [.ref 136]),
  (20, List.replicate 4 (.int 0)),
  (2, [.ref 138]),
  (20, List.replicate 40 (.int 0)),
  (2, [.ref 140]),
  (20, List.replicate 16 (.int 0)),
  (4, [.int 0, .ref 142, .ref 144, .ref 146, .ref 148, .ref 150, .ref 152]),
  (2, [.ref 143]),
  (20, List.replicate 4 (.int 0)),
  (2, [.ref 145]),
  (20, List.replicate 4 (.int 0)),
  (2, [.ref 147]),
  (20, List.replicate 4 (.int 0)),
  (2, [.ref 149]),
  (20, List.replicate 4 (.int 0)),
  (2, [.ref 151]),
  (20, List.replicate 40 (.int 0)),
  (2, [.ref 153]),
  (20, List.replicate 16 (.int 0)),
  (4, [.int 0, .ref 155, .ref 157, .ref 159, .ref 161, .ref 163, .ref 165]),
  (2, [.ref 156]),
  (20, List.replicate 4 (.int 0)),
  (2, [.ref 158]),
  (20, List.replicate 4 (.int 0)),
  (2, [.ref 160]),
  (20, List.replicate 4 (.int 0)),
  (2, [.ref 162]),
  (20, List.replicate 4 (.int 0)),
  (2, [.ref 164]),
  (20, List.replicate 40 (.int 0)),
  (2, [.ref 166]),
  (20, List.replicate 16 (.int 0)),
  (4, [.int 0, .ref 168, .ref 170, .ref 172, .ref 174, .ref 176, .ref 178]),
  (2, [.ref 169]),
  (20, List.replicate 4 (.int 0)),
  (2, [.ref 171]),
  (20, List.replicate 4 (.int 0)),
  (2, [.ref 173]),
  (20, List.replicate 4 (.int 0)),
  (2, [.ref 175]),
  (20, List.replicate 4 (.int 0)),
  (2, [.ref 177]),
  (20, List.replicate 40 (.int 0)),
  (2, [.ref 179]),
  (20, List.replicate 16 (.int 0))]
set_option maxRecDepth 1000000 in
theorem zck26 : zpreF (zevF 8) zpC6 74 14 75 [some (.ref 47), some (.int 0)] [] zw26 = some ([some (.ref 47), some (.int 1)], [.ref 167, .int 1, .ref 49], zw27) := by decide +kernel
def zw28 : zW := [
  (0, [.ref 1, .ref 4, .ref 19, .ref 34, .null, .null, .null, .null, .null]),
  (1, [.ref 2, .int 0, .int 0, .int 0, .int 0]),
  (2, [.ref 3]),
  (20, List.replicate 160 (.int 0)),
  (3, [.int 0, .int 0, .int 0, .int 9, .int 0, .ref 5, .ref 7, .ref 9, .ref 11, .ref 13, .ref 15, .ref 17]),
  (2, [.ref 6]),
  (20, List.replicate 10 (.int 0)),
  (2, [.ref 8]),
  (20, List.replicate 10 (.int 0)),
  (2, [.ref 10]),
  (20, List.replicate 4 (.int 0)),
  (2, [.ref 12]),
  (20, List.replicate 4 (.int 0)),
  (2, [.ref 14]),
  (20, List.replicate 6 (.int 0)),
  (2, [.ref 16]),
  (20, List.replicate 6 (.int 0)),
  (2, [.ref 18]),
  (20, List.replicate 6 (.int 0)),
  (3, [.int 0, .int 0, .int 0, .int 9, .int 0, .ref 20, .ref 22, .ref 24, .ref 26, .ref 28, .ref 30, .ref 32]),
  (2, [.ref 21]),
  (20, List.replicate 10 (.int 0)),
  (2, [.ref 23]),
  (20, List.replicate 10 (.int 0)),
  (2, [.ref 25]),
  (20, List.replicate 4 (.int 0)),
  (2, [.ref 27]),
  (20, List.replicate 4 (.int 0)),
  (2, [.ref 29]),
  (20, List.replicate 6 (.int 0)),
  (2, [.ref 31]),
  (20, List.replicate 6 (.int 0)),
  (2, [.ref 33]),
  (20, List.replicate 6 (.int 0)),
  (4, [.int 0, .ref 35, .ref 37, .ref 39, .ref 41, .ref 43, .ref 45]),
  (2, [.ref 36]),
  (20, List.replicate 4 (.int 0)),
  (2, [.ref 38]),
  (20, List.replicate 4 (.int 0)),
  (2, [.ref 40]),
  (20, List.replicate 4 (.int 0)),
  (2, [.ref 42]),
  (20, List.replicate 4 (.int 0)),
  (2, [.ref 44]),
  (20, List.replicate 40 (.int 0)),
  (2, [.ref 46]),
  (20, List.replicate 16 (.int 0)),
  (5, [.ref 48, .ref 49, .int 0, .int 0, .int 0]),
  (22, [.ref 50, .ref 63, .ref 76, .ref 89, .ref 102, .ref 115, .ref 128, .ref 141]),
  (22, [.ref 154, .ref 167]),
  (4, [.int 0, .ref 51, .ref 53, .ref 55, .ref 57, .ref 59, .ref 61]),
  (2, [.ref 52]),
  (20, List.replicate 4 (.int 0)),
  (2, [.ref 54]),
  (20, List.replicate 4 (.int 0)),
  (2, [.ref 56]),
  (20, List.replicate 4 (.int 0)),
  (2, [.ref 58]),
  (20, List.replicate 4 (.int 0)),
  (2, [.ref 60]),
  (20, List.replicate 40 (.int 0)),
  (2, [.ref 62]),
  (20, List.replicate 16 (.int 0)),
  (4, [.int 0, .ref 64, .ref 66, .ref 68, .ref 70, .ref 72, .ref 74]),
  (2, [.ref 65]),
  (20, List.replicate 4 (.int 0)),
  (2, [.ref 67]),
  (20, List.replicate 4 (.int 0)),
  (2, [.ref 69]),
  (20, List.replicate 4 (.int 0)),
  (2, [.ref 71]),
  (20, List.replicate 4 (.int 0)),
  (2, [.ref 73]),
  (20, List.replicate 40 (.int 0)),
  (2, [.ref 75]),
  (20, List.replicate 16 (.int 0)),
  (4, [.int 0, .ref 77, .ref 79, .ref 81, .ref 83, .ref 85, .ref 87]),
  (2, [.ref 78]),
  (20, List.replicate 4 (.int 0)),
  (2, [.ref 80]),
  (20, List.replicate 4 (.int 0)),
  (2, [.ref 82]),
  (20, List.replicate 4 (.int 0)),
  (2, [.ref 84]),
  (20, List.replicate 4 (.int 0)),
  (2, [.ref 86]),
  (20, List.replicate 40 (.int 0)),
  (2, [.ref 88]),
  (20, List.replicate 16 (.int 0)),
  (4, [.int 0, .ref 90, .ref 92, .ref 94, .ref 96, .ref 98, .ref 100]),
  (2, [.ref 91]),
  (20, List.replicate 4 (.int 0)),
  (2, [.ref 93]),
  (20, List.replicate 4 (.int 0)),
  (2, [.ref 95]),
  (20, List.replicate 4 (.int 0)),
  (2, [.ref 97]),
  (20, List.replicate 4 (.int 0)),
  (2, [.ref 99]),
  (20, List.replicate 40 (.int 0)),
  (2, [.ref 101]),
  (20, List.replicate 16 (.int 0)),
  (4, [.int 0, .ref 103, .ref 105, .ref 107, .ref 109, .ref 111, .ref 113]),
  (2, [.ref 104]),
  (20, List.replicate 4 (.int 0)),
  (2, [.ref 106]),
  (20, List.replicate 4 (.int 0)),
  (2, [.ref 108]),
  (20, List.replicate 4 (.int 0)),
  (2, [.ref 110]),
  (20, List.replicate 4 (.int 0)),
  (2, [.ref 112]),
  (20, List.replicate 40 (.int 0)),
  (2, [.ref 114]),
  (20, List.replicate 16 (.int 0)),
  (4, [.int 0, .ref 116, .ref 118, .ref 120, .ref 122, .ref 124, .ref 126]),
  (2, [.ref 117]),
  (20, List.replicate 4 (.int 0)),
  (2, [.ref 119]),
  (20, List.replicate 4 (.int 0)),
  (2, [.ref 121]),
  (20, List.replicate 4 (.int 0)),
  (2, [.ref 123]),
  (20, List.replicate 4 (.int 0)),
  (2, [.ref 125]),
  (20, List.replicate 40 (.int 0)),
  (2, [.ref 127]),
  (20, List.replicate 16 (.int 0)),
  (4, [.int 0, .ref 129, .ref 131, .ref 133, .ref 135, .ref 137, .ref 139]),
  (2, [.ref 130]),
  (20, List.replicate 4 (.int 0)),
  (2, [.ref 132]),
  (20, List.replicate 4 (.int 0)),
  (2, [.ref 134]),
  (20, List.replicate 4 (.int 0)),
  (2, [.ref 136]),
  (20, List.replicate 4 (.int 0)),
  (2, [.ref 138]),
  (20, List.replicate 40 (.int 0)),
  (2, [.ref 140]),
  (20, List.replicate 16 (.int 0)),
  (4, [.int 0, .ref 142, .ref 144, .ref 146, .ref 148, .ref 150, .ref 152]),
  (2, [.ref 143]),
  (20, List.replicate 4 (.int 0)),
  (2, [.ref 145]),
  (20, List.replicate 4 (.int 0)),
  (2, [.ref 147]),
  (20, List.replicate 4 (.int 0)),
  (2, [.ref 149]),
  (20, List.replicate 4 (.int 0)),
  (2, [.ref 151]),
  (20, List.replicate 40 (.int 0)),
  (2, [.ref 153]),
  (20, List.replicate 16 (.int 0)),
  (4, [.int 0, .ref 155, .ref 157, .ref 159, .ref 161, .ref 163, .ref 165]),
  (2, [.ref 156]),
  (20, List.replicate 4 (.int 0)),
  (2, [.ref 158]),
  (20, List.replicate 4 (.int 0)),
  (2, [.ref 160]),
  (20, List.replicate 4 (.int 0)),
  (2, [.ref 162]),
  (20, List.replicate 4 (.int 0)),
  (2, [.ref 164]),
  (20, List.replicate 40 (.int 0)),
  (2, [.ref 166]),
  (20, List.replicate 16 (.int 0)),
  (4, [.int 0, .ref 168, .ref 170, .ref 172, .ref 174, .ref 176, .ref 178]),
  (2, [.ref 169]),
  (20, List.replicate 4 (.int 0)),
  (2, [.ref 171]),
  (20, List.replicate 4 (.int 0)),
  (2, [.ref 173]),
  (20, List.replicate 4 (.int 0)),
  (2, [.ref 175]),
  (20, List.replicate 4 (.int 0)),
  (2, [.ref 177]),
  (20, List.replicate 40 (.int 0)),
  (2, [.ref 179]),
  (20, List.replicate 16 (.int 0))]
set_option maxRecDepth 1000000 in
theorem zck27 : zpreF (zevF 8) zpC6 75 2 74 [some (.ref 47), some (.int 1)] [.ref 167, .int 1, .ref 49] zw27 = some ([some (.ref 47), some (.int 1)], [], zw28) := by decide +kernel
set_option maxRecDepth 1000000 in
theorem zck28 : zrunF (zevF 8) zpC6 9 75 [some (.ref 47), some (.int 1)] [] zw28 = some (none, zw28) := by decide +kernel
theorem zct6 {L : Nat} {xs : Nat → Int32} : zEv L xs 9 6 [.ref 47] zw8 none zw28 := by
  refine zgw_ev zpC6_get (by decide) (by decide) (show zini 2 [.ref 47] = [some (.ref 47), none] from rfl) ?_
  refine zgw_pre (fun j As w v w2 h => zevF_ok _ j As w v w2 h) zck8 ?_
  refine zgw_pre (fun j As w v w2 h => zevF_ok _ j As w v w2 h) zck9 ?_
  refine zgw_pre (fun j As w v w2 h => zevF_ok _ j As w v w2 h) zck10 ?_
  refine zgw_pre (fun j As w v w2 h => zevF_ok _ j As w v w2 h) zck11 ?_
  refine zgw_pre (fun j As w v w2 h => zevF_ok _ j As w v w2 h) zck12 ?_
  refine zgw_pre (fun j As w v w2 h => zevF_ok _ j As w v w2 h) zck13 ?_
  refine zgw_pre (fun j As w v w2 h => zevF_ok _ j As w v w2 h) zck14 ?_
  refine zgw_pre (fun j As w v w2 h => zevF_ok _ j As w v w2 h) zck15 ?_
  refine zgw_pre (fun j As w v w2 h => zevF_ok _ j As w v w2 h) zck16 ?_
  refine zgw_pre (fun j As w v w2 h => zevF_ok _ j As w v w2 h) zck17 ?_
  refine zgw_pre (fun j As w v w2 h => zevF_ok _ j As w v w2 h) zck18 ?_
  refine zgw_pre (fun j As w v w2 h => zevF_ok _ j As w v w2 h) zck19 ?_
  refine zgw_pre (fun j As w v w2 h => zevF_ok _ j As w v w2 h) zck20 ?_
  refine zgw_pre (fun j As w v w2 h => zevF_ok _ j As w v w2 h) zck21 ?_
  refine zgw_pre (fun j As w v w2 h => zevF_ok _ j As w v w2 h) zck22 ?_
  refine zgw_pre (fun j As w v w2 h => zevF_ok _ j As w v w2 h) zck23 ?_
  refine zgw_pre (fun j As w v w2 h => zevF_ok _ j As w v w2 h) zck24 ?_
  refine zgw_pre (fun j As w v w2 h => zevF_ok _ j As w v w2 h) zck25 ?_
  refine zgw_pre (fun j As w v w2 h => zevF_ok _ j As w v w2 h) zck26 ?_
  refine zgw_pre (fun j As w v w2 h => zevF_ok _ j As w v w2 h) zck27 ?_
  exact zgw_end (fun j As w v w2 h => zevF_ok _ j As w v w2 h) zck28
def zw29 : zW := [
  (0, [.ref 1, .ref 4, .ref 19, .ref 34, .ref 47, .ref 180, .ref 183, .null, .null]),
  (1, [.ref 2, .int 0, .int 0, .int 0, .int 0]),
  (2, [.ref 3]),
  (20, List.replicate 160 (.int 0)),
  (3, [.int 0, .int 0, .int 0, .int 9, .int 0, .ref 5, .ref 7, .ref 9, .ref 11, .ref 13, .ref 15, .ref 17]),
  (2, [.ref 6]),
  (20, List.replicate 10 (.int 0)),
  (2, [.ref 8]),
  (20, List.replicate 10 (.int 0)),
  (2, [.ref 10]),
  (20, List.replicate 4 (.int 0)),
  (2, [.ref 12]),
  (20, List.replicate 4 (.int 0)),
  (2, [.ref 14]),
  (20, List.replicate 6 (.int 0)),
  (2, [.ref 16]),
  (20, List.replicate 6 (.int 0)),
  (2, [.ref 18]),
  (20, List.replicate 6 (.int 0)),
  (3, [.int 0, .int 0, .int 0, .int 9, .int 0, .ref 20, .ref 22, .ref 24, .ref 26, .ref 28, .ref 30, .ref 32]),
  (2, [.ref 21]),
  (20, List.replicate 10 (.int 0)),
  (2, [.ref 23]),
  (20, List.replicate 10 (.int 0)),
  (2, [.ref 25]),
  (20, List.replicate 4 (.int 0)),
  (2, [.ref 27]),
  (20, List.replicate 4 (.int 0)),
  (2, [.ref 29]),
  (20, List.replicate 6 (.int 0)),
  (2, [.ref 31]),
  (20, List.replicate 6 (.int 0)),
  (2, [.ref 33]),
  (20, List.replicate 6 (.int 0)),
  (4, [.int 0, .ref 35, .ref 37, .ref 39, .ref 41, .ref 43, .ref 45]),
  (2, [.ref 36]),
  (20, List.replicate 4 (.int 0)),
  (2, [.ref 38]),
  (20, List.replicate 4 (.int 0)),
  (2, [.ref 40]),
  (20, List.replicate 4 (.int 0)),
  (2, [.ref 42]),
  (20, List.replicate 4 (.int 0)),
  (2, [.ref 44]),
  (20, List.replicate 40 (.int 0)),
  (2, [.ref 46]),
  (20, List.replicate 16 (.int 0)),
  (5, [.ref 48, .ref 49, .int 0, .int 0, .int 0]),
  (22, [.ref 50, .ref 63, .ref 76, .ref 89, .ref 102, .ref 115, .ref 128, .ref 141]),
  (22, [.ref 154, .ref 167]),
  (4, [.int 0, .ref 51, .ref 53, .ref 55, .ref 57, .ref 59, .ref 61]),
  (2, [.ref 52]),
  (20, List.replicate 4 (.int 0)),
  (2, [.ref 54]),
  (20, List.replicate 4 (.int 0)),
  (2, [.ref 56]),
  (20, List.replicate 4 (.int 0)),
  (2, [.ref 58]),
  (20, List.replicate 4 (.int 0)),
  (2, [.ref 60]),
  (20, List.replicate 40 (.int 0)),
  (2, [.ref 62]),
  (20, List.replicate 16 (.int 0)),
  (4, [.int 0, .ref 64, .ref 66, .ref 68, .ref 70, .ref 72, .ref 74]),
  (2, [.ref 65]),
  (20, List.replicate 4 (.int 0)),
  (2, [.ref 67]),
  (20, List.replicate 4 (.int 0)),
  (2, [.ref 69]),
  (20, List.replicate 4 (.int 0)),
  (2, [.ref 71]),
  (20, List.replicate 4 (.int 0)),
  (2, [.ref 73]),
  (20, List.replicate 40 (.int 0)),
  (2, [.ref 75]),
  (20, List.replicate 16 (.int 0)),
  (4, [.int 0, .ref 77, .ref 79, .ref 81, .ref 83, .ref 85, .ref 87]),
  (2, [.ref 78]),
  (20, List.replicate 4 (.int 0)),
  (2, [.ref 80]),
  (20, List.replicate 4 (.int 0)),
  (2, [.ref 82]),
  (20, List.replicate 4 (.int 0)),
  (2, [.ref 84]),
  (20, List.replicate 4 (.int 0)),
  (2, [.ref 86]),
  (20, List.replicate 40 (.int 0)),
  (2, [.ref 88]),
  (20, List.replicate 16 (.int 0)),
  (4, [.int 0, .ref 90, .ref 92, .ref 94, .ref 96, .ref 98, .ref 100]),
  (2, [.ref 91]),
  (20, List.replicate 4 (.int 0)),
  (2, [.ref 93]),
  (20, List.replicate 4 (.int 0)),
  (2, [.ref 95]),
  (20, List.replicate 4 (.int 0)),
  (2, [.ref 97]),
  (20, List.replicate 4 (.int 0)),
  (2, [.ref 99]),
  (20, List.replicate 40 (.int 0)),
  (2, [.ref 101]),
  (20, List.replicate 16 (.int 0)),
  (4, [.int 0, .ref 103, .ref 105, .ref 107, .ref 109, .ref 111, .ref 113]),
  (2, [.ref 104]),
  (20, List.replicate 4 (.int 0)),
  (2, [.ref 106]),
  (20, List.replicate 4 (.int 0)),
  (2, [.ref 108]),
  (20, List.replicate 4 (.int 0)),
  (2, [.ref 110]),
  (20, List.replicate 4 (.int 0)),
  (2, [.ref 112]),
  (20, List.replicate 40 (.int 0)),
  (2, [.ref 114]),
  (20, List.replicate 16 (.int 0)),
  (4, [.int 0, .ref 116, .ref 118, .ref 120, .ref 122, .ref 124, .ref 126]),
  (2, [.ref 117]),
  (20, List.replicate 4 (.int 0)),
  (2, [.ref 119]),
  (20, List.replicate 4 (.int 0)),
  (2, [.ref 121]),
  (20, List.replicate 4 (.int 0)),
  (2, [.ref 123]),
  (20, List.replicate 4 (.int 0)),
  (2, [.ref 125]),
  (20, List.replicate 40 (.int 0)),
  (2, [.ref 127]),
  (20, List.replicate 16 (.int 0)),
  (4, [.int 0, .ref 129, .ref 131, .ref 133, .ref 135, .ref 137, .ref 139]),
  (2, [.ref 130]),
  (20, List.replicate 4 (.int 0)),
  (2, [.ref 132]),
  (20, List.replicate 4 (.int 0)),
  (2, [.ref 134]),
  (20, List.replicate 4 (.int 0)),
  (2, [.ref 136]),
  (20, List.replicate 4 (.int 0)),
  (2, [.ref 138]),
  (20, List.replicate 40 (.int 0)),
  (2, [.ref 140]),
  (20, List.replicate 16 (.int 0)),
  (4, [.int 0, .ref 142, .ref 144, .ref 146, .ref 148, .ref 150, .ref 152]),
  (2, [.ref 143]),
  (20, List.replicate 4 (.int 0)),
  (2, [.ref 145]),
  (20, List.replicate 4 (.int 0)),
  (2, [.ref 147]),
  (20, List.replicate 4 (.int 0)),
  (2, [.ref 149]),
  (20, List.replicate 4 (.int 0)),
  (2, [.ref 151]),
  (20, List.replicate 40 (.int 0)),
  (2, [.ref 153]),
  (20, List.replicate 16 (.int 0)),
  (4, [.int 0, .ref 155, .ref 157, .ref 159, .ref 161, .ref 163, .ref 165]),
  (2, [.ref 156]),
  (20, List.replicate 4 (.int 0)),
  (2, [.ref 158]),
  (20, List.replicate 4 (.int 0)),
  (2, [.ref 160]),
  (20, List.replicate 4 (.int 0)),
  (2, [.ref 162]),
  (20, List.replicate 4 (.int 0)),
  (2, [.ref 164]),
  (20, List.replicate 40 (.int 0)),
  (2, [.ref 166]),
  (20, List.replicate 16 (.int 0)),
  (4, [.int 0, .ref 168, .ref 170, .ref 172, .ref 174, .ref 176, .ref 178]),
  (2, [.ref 169]),
  (20, List.replicate 4 (.int 0)),
  (2, [.ref 171]),
  (20, List.replicate 4 (.int 0)),
  (2, [.ref 173]),
  (20, List.replicate 4 (.int 0)),
  (2, [.ref 175]),
  (20, List.replicate 4 (.int 0)),
  (2, [.ref 177]),
  (20, List.replicate 40 (.int 0)),
  (2, [.ref 179]),
  (20, List.replicate 16 (.int 0)),
  (6, [.ref 181, .int 0]),
  (2, [.ref 182]),
  (20, List.replicate 8 (.int 0)),
  (7, [.ref 184, .int 0]),
  (2, [.ref 185]),
  (20, List.replicate 10 (.int 0)),
  (8, [.null, .null, .null, .null, .int 0, .int 0, .int 0])]
set_option maxRecDepth 1000000 in
theorem zck29 : zpreF (zevF 9) zpC0 86 15 56 [some (.ref 0)] [.ref 47, .ref 0] zw28 = some ([some (.ref 0)], [.ref 186, .ref 186, .ref 0], zw29) := by decide +kernel
abbrev zpC9 : zPM := (⟨"AdjectiveCoupons$Drafts", "<init>", "()V"⟩, prog_2_method_1_code, 2, (Option.none : Option Jvm.ClassFile.FieldType), 8)
set_option maxRecDepth 100000 in
theorem zpC9_get : zpms[9]? = some zpC9 := rfl
def zw30 : zW := [
  (0, [.ref 1, .ref 4, .ref 19, .ref 34, .ref 47, .ref 180, .ref 183, .null, .null]),
  (1, [.ref 2, .int 0, .int 0, .int 0, .int 0]),
  (2, [.ref 3]),
  (20, List.replicate 160 (.int 0)),
  (3, [.int 0, .int 0, .int 0, .int 9, .int 0, .ref 5, .ref 7, .ref 9, .ref 11, .ref 13, .ref 15, .ref 17]),
  (2, [.ref 6]),
  (20, List.replicate 10 (.int 0)),
  (2, [.ref 8]),
  (20, List.replicate 10 (.int 0)),
  (2, [.ref 10]),
  (20, List.replicate 4 (.int 0)),
  (2, [.ref 12]),
  (20, List.replicate 4 (.int 0)),
  (2, [.ref 14]),
  (20, List.replicate 6 (.int 0)),
  (2, [.ref 16]),
  (20, List.replicate 6 (.int 0)),
  (2, [.ref 18]),
  (20, List.replicate 6 (.int 0)),
  (3, [.int 0, .int 0, .int 0, .int 9, .int 0, .ref 20, .ref 22, .ref 24, .ref 26, .ref 28, .ref 30, .ref 32]),
  (2, [.ref 21]),
  (20, List.replicate 10 (.int 0)),
  (2, [.ref 23]),
  (20, List.replicate 10 (.int 0)),
  (2, [.ref 25]),
  (20, List.replicate 4 (.int 0)),
  (2, [.ref 27]),
  (20, List.replicate 4 (.int 0)),
  (2, [.ref 29]),
  (20, List.replicate 6 (.int 0)),
  (2, [.ref 31]),
  (20, List.replicate 6 (.int 0)),
  (2, [.ref 33]),
  (20, List.replicate 6 (.int 0)),
  (4, [.int 0, .ref 35, .ref 37, .ref 39, .ref 41, .ref 43, .ref 45]),
  (2, [.ref 36]),
  (20, List.replicate 4 (.int 0)),
  (2, [.ref 38]),
  (20, List.replicate 4 (.int 0)),
  (2, [.ref 40]),
  (20, List.replicate 4 (.int 0)),
  (2, [.ref 42]),
  (20, List.replicate 4 (.int 0)),
  (2, [.ref 44]),
  (20, List.replicate 40 (.int 0)),
  (2, [.ref 46]),
  (20, List.replicate 16 (.int 0)),
  (5, [.ref 48, .ref 49, .int 0, .int 0, .int 0]),
  (22, [.ref 50, .ref 63, .ref 76, .ref 89, .ref 102, .ref 115, .ref 128, .ref 141]),
  (22, [.ref 154, .ref 167]),
  (4, [.int 0, .ref 51, .ref 53, .ref 55, .ref 57, .ref 59, .ref 61]),
  (2, [.ref 52]),
  (20, List.replicate 4 (.int 0)),
  (2, [.ref 54]),
  (20, List.replicate 4 (.int 0)),
  (2, [.ref 56]),
  (20, List.replicate 4 (.int 0)),
  (2, [.ref 58]),
  (20, List.replicate 4 (.int 0)),
  (2, [.ref 60]),
  (20, List.replicate 40 (.int 0)),
  (2, [.ref 62]),
  (20, List.replicate 16 (.int 0)),
  (4, [.int 0, .ref 64, .ref 66, .ref 68, .ref 70, .ref 72, .ref 74]),
  (2, [.ref 65]),
  (20, List.replicate 4 (.int 0)),
  (2, [.ref 67]),
  (20, List.replicate 4 (.int 0)),
  (2, [.ref 69]),
  (20, List.replicate 4 (.int 0)),
  (2, [.ref 71]),
  (20, List.replicate 4 (.int 0)),
  (2, [.ref 73]),
  (20, List.replicate 40 (.int 0)),
  (2, [.ref 75]),
  (20, List.replicate 16 (.int 0)),
  (4, [.int 0, .ref 77, .ref 79, .ref 81, .ref 83, .ref 85, .ref 87]),
  (2, [.ref 78]),
  (20, List.replicate 4 (.int 0)),
  (2, [.ref 80]),
  (20, List.replicate 4 (.int 0)),
  (2, [.ref 82]),
  (20, List.replicate 4 (.int 0)),
  (2, [.ref 84]),
  (20, List.replicate 4 (.int 0)),
  (2, [.ref 86]),
  (20, List.replicate 40 (.int 0)),
  (2, [.ref 88]),
  (20, List.replicate 16 (.int 0)),
  (4, [.int 0, .ref 90, .ref 92, .ref 94, .ref 96, .ref 98, .ref 100]),
  (2, [.ref 91]),
  (20, List.replicate 4 (.int 0)),
  (2, [.ref 93]),
  (20, List.replicate 4 (.int 0)),
  (2, [.ref 95]),
  (20, List.replicate 4 (.int 0)),
  (2, [.ref 97]),
  (20, List.replicate 4 (.int 0)),
  (2, [.ref 99]),
  (20, List.replicate 40 (.int 0)),
  (2, [.ref 101]),
  (20, List.replicate 16 (.int 0)),
  (4, [.int 0, .ref 103, .ref 105, .ref 107, .ref 109, .ref 111, .ref 113]),
  (2, [.ref 104]),
  (20, List.replicate 4 (.int 0)),
  (2, [.ref 106]),
  (20, List.replicate 4 (.int 0)),
  (2, [.ref 108]),
  (20, List.replicate 4 (.int 0)),
  (2, [.ref 110]),
  (20, List.replicate 4 (.int 0)),
  (2, [.ref 112]),
  (20, List.replicate 40 (.int 0)),
  (2, [.ref 114]),
  (20, List.replicate 16 (.int 0)),
  (4, [.int 0, .ref 116, .ref 118, .ref 120, .ref 122, .ref 124, .ref 126]),
  (2, [.ref 117]),
  (20, List.replicate 4 (.int 0)),
  (2, [.ref 119]),
  (20, List.replicate 4 (.int 0)),
  (2, [.ref 121]),
  (20, List.replicate 4 (.int 0)),
  (2, [.ref 123]),
  (20, List.replicate 4 (.int 0)),
  (2, [.ref 125]),
  (20, List.replicate 40 (.int 0)),
  (2, [.ref 127]),
  (20, List.replicate 16 (.int 0)),
  (4, [.int 0, .ref 129, .ref 131, .ref 133, .ref 135, .ref 137, .ref 139]),
  (2, [.ref 130]),
  (20, List.replicate 4 (.int 0)),
  (2, [.ref 132]),
  (20, List.replicate 4 (.int 0)),
  (2, [.ref 134]),
  (20, List.replicate 4 (.int 0)),
  (2, [.ref 136]),
  (20, List.replicate 4 (.int 0)),
  (2, [.ref 138]),
  (20, List.replicate 40 (.int 0)),
  (2, [.ref 140]),
  (20, List.replicate 16 (.int 0)),
  (4, [.int 0, .ref 142, .ref 144, .ref 146, .ref 148, .ref 150, .ref 152]),
  (2, [.ref 143]),
  (20, List.replicate 4 (.int 0)),
  (2, [.ref 145]),
  (20, List.replicate 4 (.int 0)),
  (2, [.ref 147]),
  (20, List.replicate 4 (.int 0)),
  (2, [.ref 149]),
  (20, List.replicate 4 (.int 0)),
  (2, [.ref 151]),
  (20, List.replicate 40 (.int 0)),
  (2, [.ref 153]),
  (20, List.replicate 16 (.int 0)),
  (4, [.int 0, .ref 155, .ref 157, .ref 159, .ref 161, .ref 163, .ref 165]),
  (2, [.ref 156]),
  (20, List.replicate 4 (.int 0)),
  (2, [.ref 158]),
  (20, List.replicate 4 (.int 0)),
  (2, [.ref 160]),
  (20, List.replicate 4 (.int 0)),
  (2, [.ref 162]),
  (20, List.replicate 4 (.int 0)),
  (2, [.ref 164]),
  (20, List.replicate 40 (.int 0)),
  (2, [.ref 166]),
  (20, List.replicate 16 (.int 0)),
  (4, [.int 0, .ref 168, .ref 170, .ref 172, .ref 174, .ref 176, .ref 178]),
  (2, [.ref 169]),
  (20, List.replicate 4 (.int 0)),
  (2, [.ref 171]),
  (20, List.replicate 4 (.int 0)),
  (2, [.ref 173]),
  (20, List.replicate 4 (.int 0)),
  (2, [.ref 175]),
  (20, List.replicate 4 (.int 0)),
  (2, [.ref 177]),
  (20, List.replicate 40 (.int 0)),
  (2, [.ref 179]),
  (20, List.replicate 16 (.int 0)),
  (6, [.ref 181, .int 0]),
  (2, [.ref 182]),
  (20, List.replicate 8 (.int 0)),
  (7, [.ref 184, .int 0]),
  (2, [.ref 185]),
  (20, List.replicate 10 (.int 0)),
  (8, [.ref 187, .null, .null, .null, .int 0, .int 0, .int 0]),
  (23, [.null, .null, .null, .null, .null, .null]),
  (6, [.ref 189, .int 0]),
  (2, [.ref 190]),
  (20, List.replicate 8 (.int 0))]
set_option maxRecDepth 1000000 in
theorem zck30 : zpreF (zevF 8) zpC9 21 11 0 [some (.ref 186), none] [] zw29 = some ([some (.ref 186), none], [.ref 188, .ref 186], zw30) := by decide +kernel
def zw31 : zW := [
  (0, [.ref 1, .ref 4, .ref 19, .ref 34, .ref 47, .ref 180, .ref 183, .null, .null]),
  (1, [.ref 2, .int 0, .int 0, .int 0, .int 0]),
  (2, [.ref 3]),
  (20, List.replicate 160 (.int 0)),
  (3, [.int 0, .int 0, .int 0, .int 9, .int 0, .ref 5, .ref 7, .ref 9, .ref 11, .ref 13, .ref 15, .ref 17]),
  (2, [.ref 6]),
  (20, List.replicate 10 (.int 0)),
  (2, [.ref 8]),
  (20, List.replicate 10 (.int 0)),
  (2, [.ref 10]),
  (20, List.replicate 4 (.int 0)),
  (2, [.ref 12]),
  (20, List.replicate 4 (.int 0)),
  (2, [.ref 14]),
  (20, List.replicate 6 (.int 0)),
  (2, [.ref 16]),
  (20, List.replicate 6 (.int 0)),
  (2, [.ref 18]),
  (20, List.replicate 6 (.int 0)),
  (3, [.int 0, .int 0, .int 0, .int 9, .int 0, .ref 20, .ref 22, .ref 24, .ref 26, .ref 28, .ref 30, .ref 32]),
  (2, [.ref 21]),
  (20, List.replicate 10 (.int 0)),
  (2, [.ref 23]),
  (20, List.replicate 10 (.int 0)),
  (2, [.ref 25]),
  (20, List.replicate 4 (.int 0)),
  (2, [.ref 27]),
  (20, List.replicate 4 (.int 0)),
  (2, [.ref 29]),
  (20, List.replicate 6 (.int 0)),
  (2, [.ref 31]),
  (20, List.replicate 6 (.int 0)),
  (2, [.ref 33]),
  (20, List.replicate 6 (.int 0)),
  (4, [.int 0, .ref 35, .ref 37, .ref 39, .ref 41, .ref 43, .ref 45]),
  (2, [.ref 36]),
  (20, List.replicate 4 (.int 0)),
  (2, [.ref 38]),
  (20, List.replicate 4 (.int 0)),
  (2, [.ref 40]),
  (20, List.replicate 4 (.int 0)),
  (2, [.ref 42]),
  (20, List.replicate 4 (.int 0)),
  (2, [.ref 44]),
  (20, List.replicate 40 (.int 0)),
  (2, [.ref 46]),
  (20, List.replicate 16 (.int 0)),
  (5, [.ref 48, .ref 49, .int 0, .int 0, .int 0]),
  (22, [.ref 50, .ref 63, .ref 76, .ref 89, .ref 102, .ref 115, .ref 128, .ref 141]),
  (22, [.ref 154, .ref 167]),
  (4, [.int 0, .ref 51, .ref 53, .ref 55, .ref 57, .ref 59, .ref 61]),
  (2, [.ref 52]),
  (20, List.replicate 4 (.int 0)),
  (2, [.ref 54]),
  (20, List.replicate 4 (.int 0)),
  (2, [.ref 56]),
  (20, List.replicate 4 (.int 0)),
  (2, [.ref 58]),
  (20, List.replicate 4 (.int 0)),
  (2, [.ref 60]),
  (20, List.replicate 40 (.int 0)),
  (2, [.ref 62]),
  (20, List.replicate 16 (.int 0)),
  (4, [.int 0, .ref 64, .ref 66, .ref 68, .ref 70, .ref 72, .ref 74]),
  (2, [.ref 65]),
  (20, List.replicate 4 (.int 0)),
  (2, [.ref 67]),
  (20, List.replicate 4 (.int 0)),
  (2, [.ref 69]),
  (20, List.replicate 4 (.int 0)),
  (2, [.ref 71]),
  (20, List.replicate 4 (.int 0)),
  (2, [.ref 73]),
  (20, List.replicate 40 (.int 0)),
  (2, [.ref 75]),
  (20, List.replicate 16 (.int 0)),
  (4, [.int 0, .ref 77, .ref 79, .ref 81, .ref 83, .ref 85, .ref 87]),
  (2, [.ref 78]),
  (20, List.replicate 4 (.int 0)),
  (2, [.ref 80]),
  (20, List.replicate 4 (.int 0)),
  (2, [.ref 82]),
  (20, List.replicate 4 (.int 0)),
  (2, [.ref 84]),
  (20, List.replicate 4 (.int 0)),
  (2, [.ref 86]),
  (20, List.replicate 40 (.int 0)),
  (2, [.ref 88]),
  (20, List.replicate 16 (.int 0)),
  (4, [.int 0, .ref 90, .ref 92, .ref 94, .ref 96, .ref 98, .ref 100]),
  (2, [.ref 91]),
  (20, List.replicate 4 (.int 0)),
  (2, [.ref 93]),
  (20, List.replicate 4 (.int 0)),
  (2, [.ref 95]),
  (20, List.replicate 4 (.int 0)),
  (2, [.ref 97]),
  (20, List.replicate 4 (.int 0)),
  (2, [.ref 99]),
  (20, List.replicate 40 (.int 0)),
  (2, [.ref 101]),
  (20, List.replicate 16 (.int 0)),
  (4, [.int 0, .ref 103, .ref 105, .ref 107, .ref 109, .ref 111, .ref 113]),
  (2, [.ref 104]),
  (20, List.replicate 4 (.int 0)),
  (2, [.ref 106]),
  (20, List.replicate 4 (.int 0)),
  (2, [.ref 108]),
  (20, List.replicate 4 (.int 0)),
  (2, [.ref 110]),
  (20, List.replicate 4 (.int 0)),
  (2, [.ref 112]),
  (20, List.replicate 40 (.int 0)),
  (2, [.ref 114]),
  (20, List.replicate 16 (.int 0)),
  (4, [.int 0, .ref 116, .ref 118, .ref 120, .ref 122, .ref 124, .ref 126]),
  (2, [.ref 117]),
  (20, List.replicate 4 (.int 0)),
  (2, [.ref 119]),
  (20, List.replicate 4 (.int 0)),
  (2, [.ref 121]),
  (20, List.replicate 4 (.int 0)),
  (2, [.ref 123]),
  (20, List.replicate 4 (.int 0)),
  (2, [.ref 125]),
  (20, List.replicate 40 (.int 0)),
  (2, [.ref 127]),
  (20, List.replicate 16 (.int 0)),
  (4, [.int 0, .ref 129, .ref 131, .ref 133, .ref 135, .ref 137, .ref 139]),
  (2, [.ref 130]),
  (20, List.replicate 4 (.int 0)),
  (2, [.ref 132]),
  (20, List.replicate 4 (.int 0)),
  (2, [.ref 134]),
  (20, List.replicate 4 (.int 0)),
  (2, [.ref 136]),
  (20, List.replicate 4 (.int 0)),
  (2, [.ref 138]),
  (20, List.replicate 40 (.int 0)),
  (2, [.ref 140]),
  (20, List.replicate 16 (.int 0)),
  (4, [.int 0, .ref 142, .ref 144, .ref 146, .ref 148, .ref 150, .ref 152]),
  (2, [.ref 143]),
  (20, List.replicate 4 (.int 0)),
  (2, [.ref 145]),
  (20, List.replicate 4 (.int 0)),
  (2, [.ref 147]),
  (20, List.replicate 4 (.int 0)),
  (2, [.ref 149]),
  (20, List.replicate 4 (.int 0)),
  (2, [.ref 151]),
  (20, List.replicate 40 (.int 0)),
  (2, [.ref 153]),
  (20, List.replicate 16 (.int 0)),
  (4, [.int 0, .ref 155, .ref 157, .ref 159, .ref 161, .ref 163, .ref 165]),
  (2, [.ref 156]),
  (20, List.replicate 4 (.int 0)),
  (2, [.ref 158]),
  (20, List.replicate 4 (.int 0)),
  (2, [.ref 160]),
  (20, List.replicate 4 (.int 0)),
  (2, [.ref 162]),
  (20, List.replicate 4 (.int 0)),
  (2, [.ref 164]),
  (20, List.replicate 40 (.int 0)),
  (2, [.ref 166]),
  (20, List.replicate 16 (.int 0)),
  (4, [.int 0, .ref 168, .ref 170, .ref 172, .ref 174, .ref 176, .ref 178]),
  (2, [.ref 169]),
  (20, List.replicate 4 (.int 0)),
  (2, [.ref 171]),
  (20, List.replicate 4 (.int 0)),
  (2, [.ref 173]),
  (20, List.replicate 4 (.int 0)),
  (2, [.ref 175]),
  (20, List.replicate 4 (.int 0)),
  (2, [.ref 177]),
  (20, List.replicate 40 (.int 0)),
  (2, [.ref 179]),
  (20, List.replicate 16 (.int 0)),
  (6, [.ref 181, .int 0]),
  (2, [.ref 182]),
  (20, List.replicate 8 (.int 0)),
  (7, [.ref 184, .int 0]),
  (2, [.ref 185]),
  (20, List.replicate 10 (.int 0)),
  (8, [.ref 187, .ref 188, .null, .null, .int 0, .int 0, .int 0]),
  (23, [.null, .null, .null, .null, .null, .null]),
  (6, [.ref 189, .int 0]),
  (2, [.ref 190]),
  (20, List.replicate 8 (.int 0))]
set_option maxRecDepth 1000000 in
theorem zck31 : zpreF (zevF 8) zpC9 24 2 21 [some (.ref 186), none] [.ref 188, .ref 186] zw30 = some ([some (.ref 186), none], [], zw31) := by decide +kernel
def zw32 : zW := [
  (0, [.ref 1, .ref 4, .ref 19, .ref 34, .ref 47, .ref 180, .ref 183, .null, .null]),
  (1, [.ref 2, .int 0, .int 0, .int 0, .int 0]),
  (2, [.ref 3]),
  (20, List.replicate 160 (.int 0)),
  (3, [.int 0, .int 0, .int 0, .int 9, .int 0, .ref 5, .ref 7, .ref 9, .ref 11, .ref 13, .ref 15, .ref 17]),
  (2, [.ref 6]),
  (20, List.replicate 10 (.int 0)),
  (2, [.ref 8]),
  (20, List.replicate 10 (.int 0)),
  (2, [.ref 10]),
  (20, List.replicate 4 (.int 0)),
  (2, [.ref 12]),
  (20, List.replicate 4 (.int 0)),
  (2, [.ref 14]),
  (20, List.replicate 6 (.int 0)),
  (2, [.ref 16]),
  (20, List.replicate 6 (.int 0)),
  (2, [.ref 18]),
  (20, List.replicate 6 (.int 0)),
  (3, [.int 0, .int 0, .int 0, .int 9, .int 0, .ref 20, .ref 22, .ref 24, .ref 26, .ref 28, .ref 30, .ref 32]),
  (2, [.ref 21]),
  (20, List.replicate 10 (.int 0)),
  (2, [.ref 23]),
  (20, List.replicate 10 (.int 0)),
  (2, [.ref 25]),
  (20, List.replicate 4 (.int 0)),
  (2, [.ref 27]),
  (20, List.replicate 4 (.int 0)),
  (2, [.ref 29]),
  (20, List.replicate 6 (.int 0)),
  (2, [.ref 31]),
  (20, List.replicate 6 (.int 0)),
  (2, [.ref 33]),
  (20, List.replicate 6 (.int 0)),
  (4, [.int 0, .ref 35, .ref 37, .ref 39, .ref 41, .ref 43, .ref 45]),
  (2, [.ref 36]),
  (20, List.replicate 4 (.int 0)),
  (2, [.ref 38]),
  (20, List.replicate 4 (.int 0)),
  (2, [.ref 40]),
  (20, List.replicate 4 (.int 0)),
  (2, [.ref 42]),
  (20, List.replicate 4 (.int 0)),
  (2, [.ref 44]),
  (20, List.replicate 40 (.int 0)),
  (2, [.ref 46]),
  (20, List.replicate 16 (.int 0)),
  (5, [.ref 48, .ref 49, .int 0, .int 0, .int 0]),
  (22, [.ref 50, .ref 63, .ref 76, .ref 89, .ref 102, .ref 115, .ref 128, .ref 141]),
  (22, [.ref 154, .ref 167]),
  (4, [.int 0, .ref 51, .ref 53, .ref 55, .ref 57, .ref 59, .ref 61]),
  (2, [.ref 52]),
  (20, List.replicate 4 (.int 0)),
  (2, [.ref 54]),
  (20, List.replicate 4 (.int 0)),
  (2, [.ref 56]),
  (20, List.replicate 4 (.int 0)),
  (2, [.ref 58]),
  (20, List.replicate 4 (.int 0)),
  (2, [.ref 60]),
  (20, List.replicate 40 (.int 0)),
  (2, [.ref 62]),
  (20, List.replicate 16 (.int 0)),
  (4, [.int 0, .ref 64, .ref 66, .ref 68, .ref 70, .ref 72, .ref 74]),
  (2, [.ref 65]),
  (20, List.replicate 4 (.int 0)),
  (2, [.ref 67]),
  (20, List.replicate 4 (.int 0)),
  (2, [.ref 69]),
  (20, List.replicate 4 (.int 0)),
  (2, [.ref 71]),
  (20, List.replicate 4 (.int 0)),
  (2, [.ref 73]),
  (20, List.replicate 40 (.int 0)),
  (2, [.ref 75]),
  (20, List.replicate 16 (.int 0)),
  (4, [.int 0, .ref 77, .ref 79, .ref 81, .ref 83, .ref 85, .ref 87]),
  (2, [.ref 78]),
  (20, List.replicate 4 (.int 0)),
  (2, [.ref 80]),
  (20, List.replicate 4 (.int 0)),
  (2, [.ref 82]),
  (20, List.replicate 4 (.int 0)),
  (2, [.ref 84]),
  (20, List.replicate 4 (.int 0)),
  (2, [.ref 86]),
  (20, List.replicate 40 (.int 0)),
  (2, [.ref 88]),
  (20, List.replicate 16 (.int 0)),
  (4, [.int 0, .ref 90, .ref 92, .ref 94, .ref 96, .ref 98, .ref 100]),
  (2, [.ref 91]),
  (20, List.replicate 4 (.int 0)),
  (2, [.ref 93]),
  (20, List.replicate 4 (.int 0)),
  (2, [.ref 95]),
  (20, List.replicate 4 (.int 0)),
  (2, [.ref 97]),
  (20, List.replicate 4 (.int 0)),
  (2, [.ref 99]),
  (20, List.replicate 40 (.int 0)),
  (2, [.ref 101]),
  (20, List.replicate 16 (.int 0)),
  (4, [.int 0, .ref 103, .ref 105, .ref 107, .ref 109, .ref 111, .ref 113]),
  (2, [.ref 104]),
  (20, List.replicate 4 (.int 0)),
  (2, [.ref 106]),
  (20, List.replicate 4 (.int 0)),
  (2, [.ref 108]),
  (20, List.replicate 4 (.int 0)),
  (2, [.ref 110]),
  (20, List.replicate 4 (.int 0)),
  (2, [.ref 112]),
  (20, List.replicate 40 (.int 0)),
  (2, [.ref 114]),
  (20, List.replicate 16 (.int 0)),
  (4, [.int 0, .ref 116, .ref 118, .ref 120, .ref 122, .ref 124, .ref 126]),
  (2, [.ref 117]),
  (20, List.replicate 4 (.int 0)),
  (2, [.ref 119]),
  (20, List.replicate 4 (.int 0)),
  (2, [.ref 121]),
  (20, List.replicate 4 (.int 0)),
  (2, [.ref 123]),
  (20, List.replicate 4 (.int 0)),
  (2, [.ref 125]),
  (20, List.replicate 40 (.int 0)),
  (2, [.ref 127]),
  (20, List.replicate 16 (.int 0)),
  (4, [.int 0, .ref 129, .ref 131, .ref 133, .ref 135, .ref 137, .ref 139]),
  (2, [.ref 130]),
  (20, List.replicate 4 (.int 0)),
  (2, [.ref 132]),
  (20, List.replicate 4 (.int 0)),
  (2, [.ref 134]),
  (20, List.replicate 4 (.int 0)),
  (2, [.ref 136]),
  (20, List.replicate 4 (.int 0)),
  (2, [.ref 138]),
  (20, List.replicate 40 (.int 0)),
  (2, [.ref 140]),
  (20, List.replicate 16 (.int 0)),
  (4, [.int 0, .ref 142, .ref 144, .ref 146, .ref 148, .ref 150, .ref 152]),
  (2, [.ref 143]),
  (20, List.replicate 4 (.int 0)),
  (2, [.ref 145]),
  (20, List.replicate 4 (.int 0)),
  (2, [.ref 147]),
  (20, List.replicate 4 (.int 0)),
  (2, [.ref 149]),
  (20, List.replicate 4 (.int 0)),
  (2, [.ref 151]),
  (20, List.replicate 40 (.int 0)),
  (2, [.ref 153]),
  (20, List.replicate 16 (.int 0)),
  (4, [.int 0, .ref 155, .ref 157, .ref 159, .ref 161, .ref 163, .ref 165]),
  (2, [.ref 156]),
  (20, List.replicate 4 (.int 0)),
  (2, [.ref 158]),
  (20, List.replicate 4 (.int 0)),
  (2, [.ref 160]),
  (20, List.replicate 4 (.int 0)),
  (2, [.ref 162]),
  (20, List.replicate 4 (.int 0)),
  (2, [.ref 164]),
  (20, List.replicate 40 (.int 0)),
  (2, [.ref 166]),
  (20, List.replicate 16 (.int 0)),
  (4, [.int 0, .ref 168, .ref 170, .ref 172, .ref 174, .ref 176, .ref 178]),
  (2, [.ref 169]),
  (20, List.replicate 4 (.int 0)),
  (2, [.ref 171]),
  (20, List.replicate 4 (.int 0)),
  (2, [.ref 173]),
  (20, List.replicate 4 (.int 0)),
  (2, [.ref 175]),
  (20, List.replicate 4 (.int 0)),
  (2, [.ref 177]),
  (20, List.replicate 40 (.int 0)),
  (2, [.ref 179]),
  (20, List.replicate 16 (.int 0)),
  (6, [.ref 181, .int 0]),
  (2, [.ref 182]),
  (20, List.replicate 8 (.int 0)),
  (7, [.ref 184, .int 0]),
  (2, [.ref 185]),
  (20, List.replicate 10 (.int 0)),
  (8, [.ref 187, .ref 188, .null, .null, .int 0, .int 0, .int 0]),
  (23, [.null, .null, .null, .null, .null, .null]),
  (6, [.ref 189, .int 0]),
  (2, [.ref 190]),
  (20, List.replicate 8 (.int 0)),
  (2, [.ref 192]),
  (20, List.replicate 6 (.int 0))]
set_option maxRecDepth 1000000 in
theorem zck32 : zpreF (zevF 8) zpC9 34 6 24 [some (.ref 186), none] [] zw31 = some ([some (.ref 186), none], [.ref 191, .ref 186], zw32) := by decide +kernel
def zw33 : zW := [
  (0, [.ref 1, .ref 4, .ref 19, .ref 34, .ref 47, .ref 180, .ref 183, .null, .null]),
  (1, [.ref 2, .int 0, .int 0, .int 0, .int 0]),
  (2, [.ref 3]),
  (20, List.replicate 160 (.int 0)),
  (3, [.int 0, .int 0, .int 0, .int 9, .int 0, .ref 5, .ref 7, .ref 9, .ref 11, .ref 13, .ref 15, .ref 17]),
  (2, [.ref 6]),
  (20, List.replicate 10 (.int 0)),
  (2, [.ref 8]),
  (20, List.replicate 10 (.int 0)),
  (2, [.ref 10]),
  (20, List.replicate 4 (.int 0)),
  (2, [.ref 12]),
  (20, List.replicate 4 (.int 0)),
  (2, [.ref 14]),
  (20, List.replicate 6 (.int 0)),
  (2, [.ref 16]),
  (20, List.replicate 6 (.int 0)),
  (2, [.ref 18]),
  (20, List.replicate 6 (.int 0)),
  (3, [.int 0, .int 0, .int 0, .int 9, .int 0, .ref 20, .ref 22, .ref 24, .ref 26, .ref 28, .ref 30, .ref 32]),
  (2, [.ref 21]),
  (20, List.replicate 10 (.int 0)),
  (2, [.ref 23]),
  (20, List.replicate 10 (.int 0)),
  (2, [.ref 25]),
  (20, List.replicate 4 (.int 0)),
  (2, [.ref 27]),
  (20, List.replicate 4 (.int 0)),
  (2, [.ref 29]),
  (20, List.replicate 6 (.int 0)),
  (2, [.ref 31]),
  (20, List.replicate 6 (.int 0)),
  (2, [.ref 33]),
  (20, List.replicate 6 (.int 0)),
  (4, [.int 0, .ref 35, .ref 37, .ref 39, .ref 41, .ref 43, .ref 45]),
  (2, [.ref 36]),
  (20, List.replicate 4 (.int 0)),
  (2, [.ref 38]),
  (20, List.replicate 4 (.int 0)),
  (2, [.ref 40]),
  (20, List.replicate 4 (.int 0)),
  (2, [.ref 42]),
  (20, List.replicate 4 (.int 0)),
  (2, [.ref 44]),
  (20, List.replicate 40 (.int 0)),
  (2, [.ref 46]),
  (20, List.replicate 16 (.int 0)),
  (5, [.ref 48, .ref 49, .int 0, .int 0, .int 0]),
  (22, [.ref 50, .ref 63, .ref 76, .ref 89, .ref 102, .ref 115, .ref 128, .ref 141]),
  (22, [.ref 154, .ref 167]),
  (4, [.int 0, .ref 51, .ref 53, .ref 55, .ref 57, .ref 59, .ref 61]),
  (2, [.ref 52]),
  (20, List.replicate 4 (.int 0)),
  (2, [.ref 54]),
  (20, List.replicate 4 (.int 0)),
  (2, [.ref 56]),
  (20, List.replicate 4 (.int 0)),
  (2, [.ref 58]),
  (20, List.replicate 4 (.int 0)),
  (2, [.ref 60]),
  (20, List.replicate 40 (.int 0)),
  (2, [.ref 62]),
  (20, List.replicate 16 (.int 0)),
  (4, [.int 0, .ref 64, .ref 66, .ref 68, .ref 70, .ref 72, .ref 74]),
  (2, [.ref 65]),
  (20, List.replicate 4 (.int 0)),
  (2, [.ref 67]),
  (20, List.replicate 4 (.int 0)),
  (2, [.ref 69]),
  (20, List.replicate 4 (.int 0)),
  (2, [.ref 71]),
  (20, List.replicate 4 (.int 0)),
  (2, [.ref 73]),
  (20, List.replicate 40 (.int 0)),
  (2, [.ref 75]),
  (20, List.replicate 16 (.int 0)),
  (4, [.int 0, .ref 77, .ref 79, .ref 81, .ref 83, .ref 85, .ref 87]),
  (2, [.ref 78]),
  (20, List.replicate 4 (.int 0)),
  (2, [.ref 80]),
  (20, List.replicate 4 (.int 0)),
  (2, [.ref 82]),
  (20, List.replicate 4 (.int 0)),
  (2, [.ref 84]),
  (20, List.replicate 4 (.int 0)),
  (2, [.ref 86]),
  (20, List.replicate 40 (.int 0)),
  (2, [.ref 88]),
  (20, List.replicate 16 (.int 0)),
  (4, [.int 0, .ref 90, .ref 92, .ref 94, .ref 96, .ref 98, .ref 100]),
  (2, [.ref 91]),
  (20, List.replicate 4 (.int 0)),
  (2, [.ref 93]),
  (20, List.replicate 4 (.int 0)),
  (2, [.ref 95]),
  (20, List.replicate 4 (.int 0)),
  (2, [.ref 97]),
  (20, List.replicate 4 (.int 0)),
  (2, [.ref 99]),
  (20, List.replicate 40 (.int 0)),
  (2, [.ref 101]),
  (20, List.replicate 16 (.int 0)),
  (4, [.int 0, .ref 103, .ref 105, .ref 107, .ref 109, .ref 111, .ref 113]),
  (2, [.ref 104]),
  (20, List.replicate 4 (.int 0)),
  (2, [.ref 106]),
  (20, List.replicate 4 (.int 0)),
  (2, [.ref 108]),
  (20, List.replicate 4 (.int 0)),
  (2, [.ref 110]),
  (20, List.replicate 4 (.int 0)),
  (2, [.ref 112]),
  (20, List.replicate 40 (.int 0)),
  (2, [.ref 114]),
  (20, List.replicate 16 (.int 0)),
  (4, [.int 0, .ref 116, .ref 118, .ref 120, .ref 122, .ref 124, .ref 126]),
  (2, [.ref 117]),
  (20, List.replicate 4 (.int 0)),
  (2, [.ref 119]),
  (20, List.replicate 4 (.int 0)),
  (2, [.ref 121]),
  (20, List.replicate 4 (.int 0)),
  (2, [.ref 123]),
  (20, List.replicate 4 (.int 0)),
  (2, [.ref 125]),
  (20, List.replicate 40 (.int 0)),
  (2, [.ref 127]),
  (20, List.replicate 16 (.int 0)),
  (4, [.int 0, .ref 129, .ref 131, .ref 133, .ref 135, .ref 137, .ref 139]),
  (2, [.ref 130]),
  (20, List.replicate 4 (.int 0)),
  (2, [.ref 132]),
  (20, List.replicate 4 (.int 0)),
  (2, [.ref 134]),
  (20, List.replicate 4 (.int 0)),
  (2, [.ref 136]),
  (20, List.replicate 4 (.int 0)),
  (2, [.ref 138]),
  (20, List.replicate 40 (.int 0)),
  (2, [.ref 140]),
  (20, List.replicate 16 (.int 0)),
  (4, [.int 0, .ref 142, .ref 144, .ref 146, .ref 148, .ref 150, .ref 152]),
  (2, [.ref 143]),
  (20, List.replicate 4 (.int 0)),
  (2, [.ref 145]),
  (20, List.replicate 4 (.int 0)),
  (2, [.ref 147]),
  (20, List.replicate 4 (.int 0)),
  (2, [.ref 149]),
  (20, List.replicate 4 (.int 0)),
  (2, [.ref 151]),
  (20, List.replicate 40 (.int 0)),
  (2, [.ref 153]),
  (20, List.replicate 16 (.int 0)),
  (4, [.int 0, .ref 155, .ref 157, .ref 159, .ref 161, .ref 163, .ref 165]),
  (2, [.ref 156]),
  (20, List.replicate 4 (.int 0)),
  (2, [.ref 158]),
  (20, List.replicate 4 (.int 0)),
  (2, [.ref 160]),
  (20, List.replicate 4 (.int 0)),
  (2, [.ref 162]),
  (20, List.replicate 4 (.int 0)),
  (2, [.ref 164]),
  (20, List.replicate 40 (.int 0)),
  (2, [.ref 166]),
  (20, List.replicate 16 (.int 0)),
  (4, [.int 0, .ref 168, .ref 170, .ref 172, .ref 174, .ref 176, .ref 178]),
  (2, [.ref 169]),
  (20, List.replicate 4 (.int 0)),
  (2, [.ref 171]),
  (20, List.replicate 4 (.int 0)),
  (2, [.ref 173]),
  (20, List.replicate 4 (.int 0)),
  (2, [.ref 175]),
  (20, List.replicate 4 (.int 0)),
  (2, [.ref 177]),
  (20, List.replicate 40 (.int 0)),
  (2, [.ref 179]),
  (20, List.replicate 16 (.int 0)),
  (6, [.ref 181, .int 0]),
  (2, [.ref 182]),
  (20, List.replicate 8 (.int 0)),
  (7, [.ref 184, .int 0]),
  (2, [.ref 185]),
  (20, List.replicate 10 (.int 0)),
  (8, [.ref 187, .ref 188, .ref 191, .null, .int 0, .int 0, .int 0]),
  (23, [.null, .null, .null, .null, .null, .null]),
  (6, [.ref 189, .int 0]),
  (2, [.ref 190]),
  (20, List.replicate 8 (.int 0)),
  (2, [.ref 192]),
  (20, List.replicate 6 (.int 0))]
set_option maxRecDepth 1000000 in
theorem zck33 : zpreF (zevF 8) zpC9 37 2 34 [some (.ref 186), none] [.ref 191, .ref 186] zw32 = some ([some (.ref 186), none], [], zw33) := by decide +kernel
def zw34 : zW := [
  (0, [.ref 1, .ref 4, .ref 19, .ref 34, .ref 47, .ref 180, .ref 183, .null, .null]),
  (1, [.ref 2, .int 0, .int 0, .int 0, .int 0]),
  (2, [.ref 3]),
  (20, List.replicate 160 (.int 0)),
  (3, [.int 0, .int 0, .int 0, .int 9, .int 0, .ref 5, .ref 7, .ref 9, .ref 11, .ref 13, .ref 15, .ref 17]),
  (2, [.ref 6]),
  (20, List.replicate 10 (.int 0)),
  (2, [.ref 8]),
  (20, List.replicate 10 (.int 0)),
  (2, [.ref 10]),
  (20, List.replicate 4 (.int 0)),
  (2, [.ref 12]),
  (20, List.replicate 4 (.int 0)),
  (2, [.ref 14]),
  (20, List.replicate 6 (.int 0)),
  (2, [.ref 16]),
  (20, List.replicate 6 (.int 0)),
  (2, [.ref 18]),
  (20, List.replicate 6 (.int 0)),
  (3, [.int 0, .int 0, .int 0, .int 9, .int 0, .ref 20, .ref 22, .ref 24, .ref 26, .ref 28, .ref 30, .ref 32]),
  (2, [.ref 21]),
  (20, List.replicate 10 (.int 0)),
  (2, [.ref 23]),
  (20, List.replicate 10 (.int 0)),
  (2, [.ref 25]),
  (20, List.replicate 4 (.int 0)),
  (2, [.ref 27]),
  (20, List.replicate 4 (.int 0)),
  (2, [.ref 29]),
  (20, List.replicate 6 (.int 0)),
  (2, [.ref 31]),
  (20, List.replicate 6 (.int 0)),
  (2, [.ref 33]),
  (20, List.replicate 6 (.int 0)),
  (4, [.int 0, .ref 35, .ref 37, .ref 39, .ref 41, .ref 43, .ref 45]),
  (2, [.ref 36]),
  (20, List.replicate 4 (.int 0)),
  (2, [.ref 38]),
  (20, List.replicate 4 (.int 0)),
  (2, [.ref 40]),
  (20, List.replicate 4 (.int 0)),
  (2, [.ref 42]),
  (20, List.replicate 4 (.int 0)),
  (2, [.ref 44]),
  (20, List.replicate 40 (.int 0)),
  (2, [.ref 46]),
  (20, List.replicate 16 (.int 0)),
  (5, [.ref 48, .ref 49, .int 0, .int 0, .int 0]),
  (22, [.ref 50, .ref 63, .ref 76, .ref 89, .ref 102, .ref 115, .ref 128, .ref 141]),
  (22, [.ref 154, .ref 167]),
  (4, [.int 0, .ref 51, .ref 53, .ref 55, .ref 57, .ref 59, .ref 61]),
  (2, [.ref 52]),
  (20, List.replicate 4 (.int 0)),
  (2, [.ref 54]),
  (20, List.replicate 4 (.int 0)),
  (2, [.ref 56]),
  (20, List.replicate 4 (.int 0)),
  (2, [.ref 58]),
  (20, List.replicate 4 (.int 0)),
  (2, [.ref 60]),
  (20, List.replicate 40 (.int 0)),
  (2, [.ref 62]),
  (20, List.replicate 16 (.int 0)),
  (4, [.int 0, .ref 64, .ref 66, .ref 68, .ref 70, .ref 72, .ref 74]),
  (2, [.ref 65]),
  (20, List.replicate 4 (.int 0)),
  (2, [.ref 67]),
  (20, List.replicate 4 (.int 0)),
  (2, [.ref 69]),
  (20, List.replicate 4 (.int 0)),
  (2, [.ref 71]),
  (20, List.replicate 4 (.int 0)),
  (2, [.ref 73]),
  (20, List.replicate 40 (.int 0)),
  (2, [.ref 75]),
  (20, List.replicate 16 (.int 0)),
  (4, [.int 0, .ref 77, .ref 79, .ref 81, .ref 83, .ref 85, .ref 87]),
  (2, [.ref 78]),
  (20, List.replicate 4 (.int 0)),
  (2, [.ref 80]),
  (20, List.replicate 4 (.int 0)),
  (2, [.ref 82]),
  (20, List.replicate 4 (.int 0)),
  (2, [.ref 84]),
  (20, List.replicate 4 (.int 0)),
  (2, [.ref 86]),
  (20, List.replicate 40 (.int 0)),
  (2, [.ref 88]),
  (20, List.replicate 16 (.int 0)),
  (4, [.int 0, .ref 90, .ref 92, .ref 94, .ref 96, .ref 98, .ref 100]),
  (2, [.ref 91]),
  (20, List.replicate 4 (.int 0)),
  (2, [.ref 93]),
  (20, List.replicate 4 (.int 0)),
  (2, [.ref 95]),
  (20, List.replicate 4 (.int 0)),
  (2, [.ref 97]),
  (20, List.replicate 4 (.int 0)),
  (2, [.ref 99]),
  (20, List.replicate 40 (.int 0)),
  (2, [.ref 101]),
  (20, List.replicate 16 (.int 0)),
  (4, [.int 0, .ref 103, .ref 105, .ref 107, .ref 109, .ref 111, .ref 113]),
  (2, [.ref 104]),
  (20, List.replicate 4 (.int 0)),
  (2, [.ref 106]),
  (20, List.replicate 4 (.int 0)),
  (2, [.ref 108]),
  (20, List.replicate 4 (.int 0)),
  (2, [.ref 110]),
  (20, List.replicate 4 (.int 0)),
  (2, [.ref 112]),
  (20, List.replicate 40 (.int 0)),
  (2, [.ref 114]),
  (20, List.replicate 16 (.int 0)),
  (4, [.int 0, .ref 116, .ref 118, .ref 120, .ref 122, .ref 124, .ref 126]),
  (2, [.ref 117]),
  (20, List.replicate 4 (.int 0)),
  (2, [.ref 119]),
  (20, List.replicate 4 (.int 0)),
  (2, [.ref 121]),
  (20, List.replicate 4 (.int 0)),
  (2, [.ref 123]),
  (20, List.replicate 4 (.int 0)),
  (2, [.ref 125]),
  (20, List.replicate 40 (.int 0)),
  (2, [.ref 127]),
  (20, List.replicate 16 (.int 0)),
  (4, [.int 0, .ref 129, .ref 131, .ref 133, .ref 135, .ref 137, .ref 139]),
  (2, [.ref 130]),
  (20, List.replicate 4 (.int 0)),
  (2, [.ref 132]),
  (20, List.replicate 4 (.int 0)),
  (2, [.ref 134]),
  (20, List.replicate 4 (.int 0)),
  (2, [.ref 136]),
  (20, List.replicate 4 (.int 0)),
  (2, [.ref 138]),
  (20, List.replicate 40 (.int 0)),
  (2, [.ref 140]),
  (20, List.replicate 16 (.int 0)),
  (4, [.int 0, .ref 142, .ref 144, .ref 146, .ref 148, .ref 150, .ref 152]),
  (2, [.ref 143]),
  (20, List.replicate 4 (.int 0)),
  (2, [.ref 145]),
  (20, List.replicate 4 (.int 0)),
  (2, [.ref 147]),
  (20, List.replicate 4 (.int 0)),
  (2, [.ref 149]),
  (20, List.replicate 4 (.int 0)),
  (2, [.ref 151]),
  (20, List.replicate 40 (.int 0)),
  (2, [.ref 153]),
  (20, List.replicate 16 (.int 0)),
  (4, [.int 0, .ref 155, .ref 157, .ref 159, .ref 161, .ref 163, .ref 165]),
  (2, [.ref 156]),
  (20, List.replicate 4 (.int 0)),
  (2, [.ref 158]),
  (20, List.replicate 4 (.int 0)),
  (2, [.ref 160]),
  (20, List.replicate 4 (.int 0)),
  (2, [.ref 162]),
  (20, List.replicate 4 (.int 0)),
  (2, [.ref 164]),
  (20, List.replicate 40 (.int 0)),
  (2, [.ref 166]),
  (20, List.replicate 16 (.int 0)),
  (4, [.int 0, .ref 168, .ref 170, .ref 172, .ref 174, .ref 176, .ref 178]),
  (2, [.ref 169]),
  (20, List.replicate 4 (.int 0)),
  (2, [.ref 171]),
  (20, List.replicate 4 (.int 0)),
  (2, [.ref 173]),
  (20, List.replicate 4 (.int 0)),
  (2, [.ref 175]),
  (20, List.replicate 4 (.int 0)),
  (2, [.ref 177]),
  (20, List.replicate 40 (.int 0)),
  (2, [.ref 179]),
  (20, List.replicate 16 (.int 0)),
  (6, [.ref 181, .int 0]),
  (2, [.ref 182]),
  (20, List.replicate 8 (.int 0)),
  (7, [.ref 184, .int 0]),
  (2, [.ref 185]),
  (20, List.replicate 10 (.int 0)),
  (8, [.ref 187, .ref 188, .ref 191, .null, .int 0, .int 0, .int 0]),
  (23, [.null, .null, .null, .null, .null, .null]),
  (6, [.ref 189, .int 0]),
  (2, [.ref 190]),
  (20, List.replicate 8 (.int 0)),
  (2, [.ref 192]),
  (20, List.replicate 6 (.int 0)),
  (2, [.ref 194]),
  (20, List.replicate 6 (.int 0))]
set_option maxRecDepth 1000000 in
theorem zck34 : zpreF (zevF 8) zpC9 47 6 37 [some (.ref 186), none] [] zw33 = some ([some (.ref 186), none], [.ref 193, .ref 186], zw34) := by decide +kernel
def zw35 : zW := [
  (0, [.ref 1, .ref 4, .ref 19, .ref 34, .ref 47, .ref 180, .ref 183, .null, .null]),
  (1, [.ref 2, .int 0, .int 0, .int 0, .int 0]),
  (2, [.ref 3]),
  (20, List.replicate 160 (.int 0)),
  (3, [.int 0, .int 0, .int 0, .int 9, .int 0, .ref 5, .ref 7, .ref 9, .ref 11, .ref 13, .ref 15, .ref 17]),
  (2, [.ref 6]),
  (20, List.replicate 10 (.int 0)),
  (2, [.ref 8]),
  (20, List.replicate 10 (.int 0)),
  (2, [.ref 10]),
  (20, List.replicate 4 (.int 0)),
  (2, [.ref 12]),
  (20, List.replicate 4 (.int 0)),
  (2, [.ref 14]),
  (20, List.replicate 6 (.int 0)),
  (2, [.ref 16]),
  (20, List.replicate 6 (.int 0)),
  (2, [.ref 18]),
  (20, List.replicate 6 (.int 0)),
  (3, [.int 0, .int 0, .int 0, .int 9, .int 0, .ref 20, .ref 22, .ref 24, .ref 26, .ref 28, .ref 30, .ref 32]),
  (2, [.ref 21]),
  (20, List.replicate 10 (.int 0)),
  (2, [.ref 23]),
  (20, List.replicate 10 (.int 0)),
  (2, [.ref 25]),
  (20, List.replicate 4 (.int 0)),
  (2, [.ref 27]),
  (20, List.replicate 4 (.int 0)),
  (2, [.ref 29]),
  (20, List.replicate 6 (.int 0)),
  (2, [.ref 31]),
  (20, List.replicate 6 (.int 0)),
  (2, [.ref 33]),
  (20, List.replicate 6 (.int 0)),
  (4, [.int 0, .ref 35, .ref 37, .ref 39, .ref 41, .ref 43, .ref 45]),
  (2, [.ref 36]),
  (20, List.replicate 4 (.int 0)),
  (2, [.ref 38]),
  (20, List.replicate 4 (.int 0)),
  (2, [.ref 40]),
  (20, List.replicate 4 (.int 0)),
  (2, [.ref 42]),
  (20, List.replicate 4 (.int 0)),
  (2, [.ref 44]),
  (20, List.replicate 40 (.int 0)),
  (2, [.ref 46]),
  (20, List.replicate 16 (.int 0)),
  (5, [.ref 48, .ref 49, .int 0, .int 0, .int 0]),
  (22, [.ref 50, .ref 63, .ref 76, .ref 89, .ref 102, .ref 115, .ref 128, .ref 141]),
  (22, [.ref 154, .ref 167]),
  (4, [.int 0, .ref 51, .ref 53, .ref 55, .ref 57, .ref 59, .ref 61]),
  (2, [.ref 52]),
  (20, List.replicate 4 (.int 0)),
  (2, [.ref 54]),
  (20, List.replicate 4 (.int 0)),
  (2, [.ref 56]),
  (20, List.replicate 4 (.int 0)),
  (2, [.ref 58]),
  (20, List.replicate 4 (.int 0)),
  (2, [.ref 60]),
  (20, List.replicate 40 (.int 0)),
  (2, [.ref 62]),
  (20, List.replicate 16 (.int 0)),
  (4, [.int 0, .ref 64, .ref 66, .ref 68, .ref 70, .ref 72, .ref 74]),
  (2, [.ref 65]),
  (20, List.replicate 4 (.int 0)),
  (2, [.ref 67]),
  (20, List.replicate 4 (.int 0)),
  (2, [.ref 69]),
  (20, List.replicate 4 (.int 0)),
  (2, [.ref 71]),
  (20, List.replicate 4 (.int 0)),
  (2, [.ref 73]),
  (20, List.replicate 40 (.int 0)),
  (2, [.ref 75]),
  (20, List.replicate 16 (.int 0)),
  (4, [.int 0, .ref 77, .ref 79, .ref 81, .ref 83, .ref 85, .ref 87]),
  (2, [.ref 78]),
  (20, List.replicate 4 (.int 0)),
  (2, [.ref 80]),
  (20, List.replicate 4 (.int 0)),
  (2, [.ref 82]),
  (20, List.replicate 4 (.int 0)),
  (2, [.ref 84]),
  (20, List.replicate 4 (.int 0)),
  (2, [.ref 86]),
  (20, List.replicate 40 (.int 0)),
  (2, [.ref 88]),
  (20, List.replicate 16 (.int 0)),
  (4, [.int 0, .ref 90, .ref 92, .ref 94, .ref 96, .ref 98, .ref 100]),
  (2, [.ref 91]),
  (20, List.replicate 4 (.int 0)),
  (2, [.ref 93]),
  (20, List.replicate 4 (.int 0)),
  (2, [.ref 95]),
  (20, List.replicate 4 (.int 0)),
  (2, [.ref 97]),
  (20, List.replicate 4 (.int 0)),
  (2, [.ref 99]),
  (20, List.replicate 40 (.int 0)),
  (2, [.ref 101]),
  (20, List.replicate 16 (.int 0)),
  (4, [.int 0, .ref 103, .ref 105, .ref 107, .ref 109, .ref 111, .ref 113]),
  (2, [.ref 104]),
  (20, List.replicate 4 (.int 0)),
  (2, [.ref 106]),
  (20, List.replicate 4 (.int 0)),
  (2, [.ref 108]),
  (20, List.replicate 4 (.int 0)),
  (2, [.ref 110]),
  (20, List.replicate 4 (.int 0)),
  (2, [.ref 112]),
  (20, List.replicate 40 (.int 0)),
  (2, [.ref 114]),
  (20, List.replicate 16 (.int 0)),
  (4, [.int 0, .ref 116, .ref 118, .ref 120, .ref 122, .ref 124, .ref 126]),
  (2, [.ref 117]),
  (20, List.replicate 4 (.int 0)),
  (2, [.ref 119]),
  (20, List.replicate 4 (.int 0)),
  (2, [.ref 121]),
  (20, List.replicate 4 (.int 0)),
  (2, [.ref 123]),
  (20, List.replicate 4 (.int 0)),
  (2, [.ref 125]),
  (20, List.replicate 40 (.int 0)),
  (2, [.ref 127]),
  (20, List.replicate 16 (.int 0)),
  (4, [.int 0, .ref 129, .ref 131, .ref 133, .ref 135, .ref 137, .ref 139]),
  (2, [.ref 130]),
  (20, List.replicate 4 (.int 0)),
  (2, [.ref 132]),
  (20, List.replicate 4 (.int 0)),
  (2, [.ref 134]),
  (20, List.replicate 4 (.int 0)),
  (2, [.ref 136]),
  (20, List.replicate 4 (.int 0)),
  (2, [.ref 138]),
  (20, List.replicate 40 (.int 0)),
  (2, [.ref 140]),
  (20, List.replicate 16 (.int 0)),
  (4, [.int 0, .ref 142, .ref 144, .ref 146, .ref 148, .ref 150, .ref 152]),
  (2, [.ref 143]),
  (20, List.replicate 4 (.int 0)),
  (2, [.ref 145]),
  (20, List.replicate 4 (.int 0)),
  (2, [.ref 147]),
  (20, List.replicate 4 (.int 0)),
  (2, [.ref 149]),
  (20, List.replicate 4 (.int 0)),
  (2, [.ref 151]),
  (20, List.replicate 40 (.int 0)),
  (2, [.ref 153]),
  (20, List.replicate 16 (.int 0)),
  (4, [.int 0, .ref 155, .ref 157, .ref 159, .ref 161, .ref 163, .ref 165]),
  (2, [.ref 156]),
  (20, List.replicate 4 (.int 0)),
  (2, [.ref 158]),
  (20, List.replicate 4 (.int 0)),
  (2, [.ref 160]),
  (20, List.replicate 4 (.int 0)),
  (2, [.ref 162]),
  (20, List.replicate 4 (.int 0)),
  (2, [.ref 164]),
  (20, List.replicate 40 (.int 0)),
  (2, [.ref 166]),
  (20, List.replicate 16 (.int 0)),
  (4, [.int 0, .ref 168, .ref 170, .ref 172, .ref 174, .ref 176, .ref 178]),
  (2, [.ref 169]),
  (20, List.replicate 4 (.int 0)),
  (2, [.ref 171]),
  (20, List.replicate 4 (.int 0)),
  (2, [.ref 173]),
  (20, List.replicate 4 (.int 0)),
  (2, [.ref 175]),
  (20, List.replicate 4 (.int 0)),
  (2, [.ref 177]),
  (20, List.replicate 40 (.int 0)),
  (2, [.ref 179]),
  (20, List.replicate 16 (.int 0)),
  (6, [.ref 181, .int 0]),
  (2, [.ref 182]),
  (20, List.replicate 8 (.int 0)),
  (7, [.ref 184, .int 0]),
  (2, [.ref 185]),
  (20, List.replicate 10 (.int 0)),
  (8, [.ref 187, .ref 188, .ref 191, .ref 193, .int 0, .int 0, .int 0]),
  (23, [.null, .null, .null, .null, .null, .null]),
  (6, [.ref 189, .int 0]),
  (2, [.ref 190]),
  (20, List.replicate 8 (.int 0)),
  (2, [.ref 192]),
  (20, List.replicate 6 (.int 0)),
  (2, [.ref 194]),
  (20, List.replicate 6 (.int 0))]
set_option maxRecDepth 1000000 in
theorem zck35 : zpreF (zevF 8) zpC9 50 2 47 [some (.ref 186), none] [.ref 193, .ref 186] zw34 = some ([some (.ref 186), none], [], zw35) := by decide +kernel
def zw36 : zW := [
  (0, [.ref 1, .ref 4, .ref 19, .ref 34, .ref 47, .ref 180, .ref 183, .null, .null]),
  (1, [.ref 2, .int 0, .int 0, .int 0, .int 0]),
  (2, [.ref 3]),
  (20, List.replicate 160 (.int 0)),
  (3, [.int 0, .int 0, .int 0, .int 9, .int 0, .ref 5, .ref 7, .ref 9, .ref 11, .ref 13, .ref 15, .ref 17]),
  (2, [.ref 6]),
  (20, List.replicate 10 (.int 0)),
  (2, [.ref 8]),
  (20, List.replicate 10 (.int 0)),
  (2, [.ref 10]),
  (20, List.replicate 4 (.int 0)),
  (2, [.ref 12]),
  (20, List.replicate 4 (.int 0)),
  (2, [.ref 14]),
  (20, List.replicate 6 (.int 0)),
  (2, [.ref 16]),
  (20, List.replicate 6 (.int 0)),
  (2, [.ref 18]),
  (20, List.replicate 6 (.int 0)),
  (3, [.int 0, .int 0, .int 0, .int 9, .int 0, .ref 20, .ref 22, .ref 24, .ref 26, .ref 28, .ref 30, .ref 32]),
  (2, [.ref 21]),
  (20, List.replicate 10 (.int 0)),
  (2, [.ref 23]),
  (20, List.replicate 10 (.int 0)),
  (2, [.ref 25]),
  (20, List.replicate 4 (.int 0)),
  (2, [.ref 27]),
  (20, List.replicate 4 (.int 0)),
  (2, [.ref 29]),
  (20, List.replicate 6 (.int 0)),
  (2, [.ref 31]),
  (20, List.replicate 6 (.int 0)),
  (2, [.ref 33]),
  (20, List.replicate 6 (.int 0)),
  (4, [.int 0, .ref 35, .ref 37, .ref 39, .ref 41, .ref 43, .ref 45]),
  (2, [.ref 36]),
  (20, List.replicate 4 (.int 0)),
  (2, [.ref 38]),
  (20, List.replicate 4 (.int 0)),
  (2, [.ref 40]),
  (20, List.replicate 4 (.int 0)),
  (2, [.ref 42]),
  (20, List.replicate 4 (.int 0)),
  (2, [.ref 44]),
  (20, List.replicate 40 (.int 0)),
  (2, [.ref 46]),
  (20, List.replicate 16 (.int 0)),
  (5, [.ref 48, .ref 49, .int 0, .int 0, .int 0]),
  (22, [.ref 50, .ref 63, .ref 76, .ref 89, .ref 102, .ref 115, .ref 128, .ref 141]),
  (22, [.ref 154, .ref 167]),
  (4, [.int 0, .ref 51, .ref 53, .ref 55, .ref 57, .ref 59, .ref 61]),
  (2, [.ref 52]),
  (20, List.replicate 4 (.int 0)),
  (2, [.ref 54]),
  (20, List.replicate 4 (.int 0)),
  (2, [.ref 56]),
  (20, List.replicate 4 (.int 0)),
  (2, [.ref 58]),
  (20, List.replicate 4 (.int 0)),
  (2, [.ref 60]),
  (20, List.replicate 40 (.int 0)),
  (2, [.ref 62]),
  (20, List.replicate 16 (.int 0)),
  (4, [.int 0, .ref 64, .ref 66, .ref 68, .ref 70, .ref 72, .ref 74]),
  (2, [.ref 65]),
  (20, List.replicate 4 (.int 0)),
  (2, [.ref 67]),
  (20, List.replicate 4 (.int 0)),
  (2, [.ref 69]),
  (20, List.replicate 4 (.int 0)),
  (2, [.ref 71]),
  (20, List.replicate 4 (.int 0)),
  (2, [.ref 73]),
  (20, List.replicate 40 (.int 0)),
  (2, [.ref 75]),
  (20, List.replicate 16 (.int 0)),
  (4, [.int 0, .ref 77, .ref 79, .ref 81, .ref 83, .ref 85, .ref 87]),
  (2, [.ref 78]),
  (20, List.replicate 4 (.int 0)),
  (2, [.ref 80]),
  (20, List.replicate 4 (.int 0)),
  (2, [.ref 82]),
  (20, List.replicate 4 (.int 0)),
  (2, [.ref 84]),
  (20, List.replicate 4 (.int 0)),
  (2, [.ref 86]),
  (20, List.replicate 40 (.int 0)),
  (2, [.ref 88]),
  (20, List.replicate 16 (.int 0)),
  (4, [.int 0, .ref 90, .ref 92, .ref 94, .ref 96, .ref 98, .ref 100]),
  (2, [.ref 91]),
  (20, List.replicate 4 (.int 0)),
  (2, [.ref 93]),
  (20, List.replicate 4 (.int 0)),
  (2, [.ref 95]),
  (20, List.replicate 4 (.int 0)),
  (2, [.ref 97]),
  (20, List.replicate 4 (.int 0)),
  (2, [.ref 99]),
  (20, List.replicate 40 (.int 0)),
  (2, [.ref 101]),
  (20, List.replicate 16 (.int 0)),
  (4, [.int 0, .ref 103, .ref 105, .ref 107, .ref 109, .ref 111, .ref 113]),
  (2, [.ref 104]),
  (20, List.replicate 4 (.int 0)),
  (2, [.ref 106]),
  (20, List.replicate 4 (.int 0)),
  (2, [.ref 108]),
  (20, List.replicate 4 (.int 0)),
  (2, [.ref 110]),
  (20, List.replicate 4 (.int 0)),
  (2, [.ref 112]),
  (20, List.replicate 40 (.int 0)),
  (2, [.ref 114]),
  (20, List.replicate 16 (.int 0)),
  (4, [.int 0, .ref 116, .ref 118, .ref 120, .ref 122, .ref 124, .ref 126]),
  (2, [.ref 117]),
  (20, List.replicate 4 (.int 0)),
  (2, [.ref 119]),
  (20, List.replicate 4 (.int 0)),
  (2, [.ref 121]),
  (20, List.replicate 4 (.int 0)),
  (2, [.ref 123]),
  (20, List.replicate 4 (.int 0)),
  (2, [.ref 125]),
  (20, List.replicate 40 (.int 0)),
  (2, [.ref 127]),
  (20, List.replicate 16 (.int 0)),
  (4, [.int 0, .ref 129, .ref 131, .ref 133, .ref 135, .ref 137, .ref 139]),
  (2, [.ref 130]),
  (20, List.replicate 4 (.int 0)),
  (2, [.ref 132]),
  (20, List.replicate 4 (.int 0)),
  (2, [.ref 134]),
  (20, List.replicate 4 (.int 0)),
  (2, [.ref 136]),
  (20, List.replicate 4 (.int 0)),
  (2, [.ref 138]),
  (20, List.replicate 40 (.int 0)),
  (2, [.ref 140]),
  (20, List.replicate 16 (.int 0)),
  (4, [.int 0, .ref 142, .ref 144, .ref 146, .ref 148, .ref 150, .ref 152]),
  (2, [.ref 143]),
  (20, List.replicate 4 (.int 0)),
  (2, [.ref 145]),
  (20, List.replicate 4 (.int 0)),
  (2, [.ref 147]),
  (20, List.replicate 4 (.int 0)),
  (2, [.ref 149]),
  (20, List.replicate 4 (.int 0)),
  (2, [.ref 151]),
  (20, List.replicate 40 (.int 0)),
  (2, [.ref 153]),
  (20, List.replicate 16 (.int 0)),
  (4, [.int 0, .ref 155, .ref 157, .ref 159, .ref 161, .ref 163, .ref 165]),
  (2, [.ref 156]),
  (20, List.replicate 4 (.int 0)),
  (2, [.ref 158]),
  (20, List.replicate 4 (.int 0)),
  (2, [.ref 160]),
  (20, List.replicate 4 (.int 0)),
  (2, [.ref 162]),
  (20, List.replicate 4 (.int 0)),
  (2, [.ref 164]),
  (20, List.replicate 40 (.int 0)),
  (2, [.ref 166]),
  (20, List.replicate 16 (.int 0)),
  (4, [.int 0, .ref 168, .ref 170, .ref 172, .ref 174, .ref 176, .ref 178]),
  (2, [.ref 169]),
  (20, List.replicate 4 (.int 0)),
  (2, [.ref 171]),
  (20, List.replicate 4 (.int 0)),
  (2, [.ref 173]),
  (20, List.replicate 4 (.int 0)),
  (2, [.ref 175]),
  (20, List.replicate 4 (.int 0)),
  (2, [.ref 177]),
  (20, List.replicate 40 (.int 0)),
  (2, [.ref 179]),
  (20, List.replicate 16 (.int 0)),
  (6, [.ref 181, .int 0]),
  (2, [.ref 182]),
  (20, List.replicate 8 (.int 0)),
  (7, [.ref 184, .int 0]),
  (2, [.ref 185]),
  (20, List.replicate 10 (.int 0)),
  (8, [.ref 187, .ref 188, .ref 191, .ref 193, .int 0, .int 0, .int 0]),
  (23, [.null, .null, .null, .null, .null, .null]),
  (6, [.ref 189, .int 0]),
  (2, [.ref 190]),
  (20, List.replicate 8 (.int 0)),
  (2, [.ref 192]),
  (20, List.replicate 6 (.int 0)),
  (2, [.ref 194]),
  (20, List.replicate 6 (.int 0)),
  (6, [.ref 196, .int 0]),
  (2, [.ref 197]),
  (20, List.replicate 8 (.int 0))]
set_option maxRecDepth 1000000 in
theorem zck36 : zpreF (zevF 8) zpC9 73 14 50 [some (.ref 186), none] [] zw35 = some ([some (.ref 186), some (.int 0)], [.ref 195, .int 0, .ref 187], zw36) := by decide +kernel
def zw37 : zW := [
  (0, [.ref 1, .ref 4, .ref 19, .ref 34, .ref 47, .ref 180, .ref 183, .null, .null]),
  (1, [.ref 2, .int 0, .int 0, .int 0, .int 0]),
  (2, [.ref 3]),
  (20, List.replicate 160 (.int 0)),
  (3, [.int 0, .int 0, .int 0, .int 9, .int 0, .ref 5, .ref 7, .ref 9, .ref 11, .ref 13, .ref 15, .ref 17]),
  (2, [.ref 6]),
  (20, List.replicate 10 (.int 0)),
  (2, [.ref 8]),
  (20, List.replicate 10 (.int 0)),
  (2, [.ref 10]),
  (20, List.replicate 4 (.int 0)),
  (2, [.ref 12]),
  (20, List.replicate 4 (.int 0)),
  (2, [.ref 14]),
  (20, List.replicate 6 (.int 0)),
  (2, [.ref 16]),
  (20, List.replicate 6 (.int 0)),
  (2, [.ref 18]),
  (20, List.replicate 6 (.int 0)),
  (3, [.int 0, .int 0, .int 0, .int 9, .int 0, .ref 20, .ref 22, .ref 24, .ref 26, .ref 28, .ref 30, .ref 32]),
  (2, [.ref 21]),
  (20, List.replicate 10 (.int 0)),
  (2, [.ref 23]),
  (20, List.replicate 10 (.int 0)),
  (2, [.ref 25]),
  (20, List.replicate 4 (.int 0)),
  (2, [.ref 27]),
  (20, List.replicate 4 (.int 0)),
  (2, [.ref 29]),
  (20, List.replicate 6 (.int 0)),
  (2, [.ref 31]),
  (20, List.replicate 6 (.int 0)),
  (2, [.ref 33]),
  (20, List.replicate 6 (.int 0)),
  (4, [.int 0, .ref 35, .ref 37, .ref 39, .ref 41, .ref 43, .ref 45]),
  (2, [.ref 36]),
  (20, List.replicate 4 (.int 0)),
  (2, [.ref 38]),
  (20, List.replicate 4 (.int 0)),
  (2, [.ref 40]),
  (20, List.replicate 4 (.int 0)),
  (2, [.ref 42]),
  (20, List.replicate 4 (.int 0)),
  (2, [.ref 44]),
  (20, List.replicate 40 (.int 0)),
  (2, [.ref 46]),
  (20, List.replicate 16 (.int 0)),
  (5, [.ref 48, .ref 49, .int 0, .int 0, .int 0]),
  (22, [.ref 50, .ref 63, .ref 76, .ref 89, .ref 102, .ref 115, .ref 128, .ref 141]),
  (22, [.ref 154, .ref 167]),
  (4, [.int 0, .ref 51, .ref 53, .ref 55, .ref 57, .ref 59, .ref 61]),
  (2, [.ref 52]),
  (20, List.replicate 4 (.int 0)),
  (2, [.ref 54]),
  (20, List.replicate 4 (.int 0)),
  (2, [.ref 56]),
  (20, List.replicate 4 (.int 0)),
  (2, [.ref 58]),
  (20, List.replicate 4 (.int 0)),
  (2, [.ref 60]),
  (20, List.replicate 40 (.int 0)),
  (2, [.ref 62]),
  (20, List.replicate 16 (.int 0)),
  (4, [.int 0, .ref 64, .ref 66, .ref 68, .ref 70, .ref 72, .ref 74]),
  (2, [.ref 65]),
  (20, List.replicate 4 (.int 0)),
  (2, [.ref 67]),
  (20, List.replicate 4 (.int 0)),
  (2, [.ref 69]),
  (20, List.replicate 4 (.int 0)),
  (2, [.ref 71]),
  (20, List.replicate 4 (.int 0)),
  (2, [.ref 73]),
  (20, List.replicate 40 (.int 0)),
  (2, [.ref 75]),
  (20, List.replicate 16 (.int 0)),
  (4, [.int 0, .ref 77, .ref 79, .ref 81, .ref 83, .ref 85, .ref 87]),
  (2, [.ref 78]),
  (20, List.replicate 4 (.int 0)),
  (2, [.ref 80]),
  (20, List.replicate 4 (.int 0)),
  (2, [.ref 82]),
  (20, List.replicate 4 (.int 0)),
  (2, [.ref 84]),
  (20, List.replicate 4 (.int 0)),
  (2, [.ref 86]),
  (20, List.replicate 40 (.int 0)),
  (2, [.ref 88]),
  (20, List.replicate 16 (.int 0)),
  (4, [.int 0, .ref 90, .ref 92, .ref 94, .ref 96, .ref 98, .ref 100]),
  (2, [.ref 91]),
  (20, List.replicate 4 (.int 0)),
  (2, [.ref 93]),
  (20, List.replicate 4 (.int 0)),
  (2, [.ref 95]),
  (20, List.replicate 4 (.int 0)),
  (2, [.ref 97]),
  (20, List.replicate 4 (.int 0)),
  (2, [.ref 99]),
  (20, List.replicate 40 (.int 0)),
  (2, [.ref 101]),
  (20, List.replicate 16 (.int 0)),
  (4, [.int 0, .ref 103, .ref 105, .ref 107, .ref 109, .ref 111, .ref 113]),
  (2, [.ref 104]),
  (20, List.replicate 4 (.int 0)),
  (2, [.ref 106]),
  (20, List.replicate 4 (.int 0)),
  (2, [.ref 108]),
  (20, List.replicate 4 (.int 0)),
  (2, [.ref 110]),
  (20, List.replicate 4 (.int 0)),
  (2, [.ref 112]),
  (20, List.replicate 40 (.int 0)),
  (2, [.ref 114]),
  (20, List.replicate 16 (.int 0)),
  (4, [.int 0, .ref 116, .ref 118, .ref 120, .ref 122, .ref 124, .ref 126]),
  (2, [.ref 117]),
  (20, List.replicate 4 (.int 0)),
  (2, [.ref 119]),
  (20, List.replicate 4 (.int 0)),
  (2, [.ref 121]),
  (20, List.replicate 4 (.int 0)),
  (2, [.ref 123]),
  (20, List.replicate 4 (.int 0)),
  (2, [.ref 125]),
  (20, List.replicate 40 (.int 0)),
  (2, [.ref 127]),
  (20, List.replicate 16 (.int 0)),
  (4, [.int 0, .ref 129, .ref 131, .ref 133, .ref 135, .ref 137, .ref 139]),
  (2, [.ref 130]),
  (20, List.replicate 4 (.int 0)),
  (2, [.ref 132]),
  (20, List.replicate 4 (.int 0)),
  (2, [.ref 134]),
  (20, List.replicate 4 (.int 0)),
  (2, [.ref 136]),
  (20, List.replicate 4 (.int 0)),
  (2, [.ref 138]),
  (20, List.replicate 40 (.int 0)),
  (2, [.ref 140]),
  (20, List.replicate 16 (.int 0)),
  (4, [.int 0, .ref 142, .ref 144, .ref 146, .ref 148, .ref 150, .ref 152]),
  (2, [.ref 143]),
  (20, List.replicate 4 (.int 0)),
  (2, [.ref 145]),
  (20, List.replicate 4 (.int 0)),
  (2, [.ref 147]),
  (20, List.replicate 4 (.int 0)),
  (2, [.ref 149]),
  (20, List.replicate 4 (.int 0)),
  (2, [.ref 151]),
  (20, List.replicate 40 (.int 0)),
  (2, [.ref 153]),
  (20, List.replicate 16 (.int 0)),
  (4, [.int 0, .ref 155, .ref 157, .ref 159, .ref 161, .ref 163, .ref 165]),
  (2, [.ref 156]),
  (20, List.replicate 4 (.int 0)),
  (2, [.ref 158]),
  (20, List.replicate 4 (.int 0)),
  (2, [.ref 160]),
  (20, List.replicate 4 (.int 0)),
  (2, [.ref 162]),
  (20, List.replicate 4 (.int 0)),
  (2, [.ref 164]),
  (20, List.replicate 40 (.int 0)),
  (2, [.ref 166]),
  (20, List.replicate 16 (.int 0)),
  (4, [.int 0, .ref 168, .ref 170, .ref 172, .ref 174, .ref 176, .ref 178]),
  (2, [.ref 169]),
  (20, List.replicate 4 (.int 0)),
  (2, [.ref 171]),
  (20, List.replicate 4 (.int 0)),
  (2, [.ref 173]),
  (20, List.replicate 4 (.int 0)),
  (2, [.ref 175]),
  (20, List.replicate 4 (.int 0)),
  (2, [.ref 177]),
  (20, List.replicate 40 (.int 0)),
  (2, [.ref 179]),
  (20, List.replicate 16 (.int 0)),
  (6, [.ref 181, .int 0]),
  (2, [.ref 182]),
  (20, List.replicate 8 (.int 0)),
  (7, [.ref 184, .int 0]),
  (2, [.ref 185]),
  (20, List.replicate 10 (.int 0)),
  (8, [.ref 187, .ref 188, .ref 191, .ref 193, .int 0, .int 0, .int 0]),
  (23, [.ref 195, .null, .null, .null, .null, .null]),
  (6, [.ref 189, .int 0]),
  (2, [.ref 190]),
  (20, List.replicate 8 (.int 0)),
  (2, [.ref 192]),
  (20, List.replicate 6 (.int 0)),
  (2, [.ref 194]),
  (20, List.replicate 6 (.int 0)),
  (6, [.ref 196, .int 0]),
  (2, [.ref 197]),
  (20, List.replicate 8 (.int 0))]
set_option maxRecDepth 1000000 in
theorem zck37 : zpreF (zevF 8) zpC9 74 2 73 [some (.ref 186), some (.int 0)] [.ref 195, .int 0, .ref 187] zw36 = some ([some (.ref 186), some (.int 0)], [], zw37) := by decide +kernel
def zw38 : zW := [
  (0, [.ref 1, .ref 4, .ref 19, .ref 34, .ref 47, .ref 180, .ref 183, .null, .null]),
  (1, [.ref 2, .int 0, .int 0, .int 0, .int 0]),
  (2, [.ref 3]),
  (20, List.replicate 160 (.int 0)),
  (3, [.int 0, .int 0, .int 0, .int 9, .int 0, .ref 5, .ref 7, .ref 9, .ref 11, .ref 13, .ref 15, .ref 17]),
  (2, [.ref 6]),
  (20, List.replicate 10 (.int 0)),
  (2, [.ref 8]),
  (20, List.replicate 10 (.int 0)),
  (2, [.ref 10]),
  (20, List.replicate 4 (.int 0)),
  (2, [.ref 12]),
  (20, List.replicate 4 (.int 0)),
  (2, [.ref 14]),
  (20, List.replicate 6 (.int 0)),
  (2, [.ref 16]),
  (20, List.replicate 6 (.int 0)),
  (2, [.ref 18]),
  (20, List.replicate 6 (.int 0)),
  (3, [.int 0, .int 0, .int 0, .int 9, .int 0, .ref 20, .ref 22, .ref 24, .ref 26, .ref 28, .ref 30, .ref 32]),
  (2, [.ref 21]),
  (20, List.replicate 10 (.int 0)),
  (2, [.ref 23]),
  (20, List.replicate 10 (.int 0)),
  (2, [.ref 25]),
  (20, List.replicate 4 (.int 0)),
  (2, [.ref 27]),
  (20, List.replicate 4 (.int 0)),
  (2, [.ref 29]),
  (20, List.replicate 6 (.int 0)),
  (2, [.ref 31]),
  (20, List.replicate 6 (.int 0)),
  (2, [.ref 33]),
  (20, List.replicate 6 (.int 0)),
  (4, [.int 0, .ref 35, .ref 37, .ref 39, .ref 41, .ref 43, .ref 45]),
  (2, [.ref 36]),
  (20, List.replicate 4 (.int 0)),
  (2, [.ref 38]),
  (20, List.replicate 4 (.int 0)),
  (2, [.ref 40]),
  (20, List.replicate 4 (.int 0)),
  (2, [.ref 42]),
  (20, List.replicate 4 (.int 0)),
  (2, [.ref 44]),
  (20, List.replicate 40 (.int 0)),
  (2, [.ref 46]),
  (20, List.replicate 16 (.int 0)),
  (5, [.ref 48, .ref 49, .int 0, .int 0, .int 0]),
  (22, [.ref 50, .ref 63, .ref 76, .ref 89, .ref 102, .ref 115, .ref 128, .ref 141]),
  (22, [.ref 154, .ref 167]),
  (4, [.int 0, .ref 51, .ref 53, .ref 55, .ref 57, .ref 59, .ref 61]),
  (2, [.ref 52]),
  (20, List.replicate 4 (.int 0)),
  (2, [.ref 54]),
  (20, List.replicate 4 (.int 0)),
  (2, [.ref 56]),
  (20, List.replicate 4 (.int 0)),
  (2, [.ref 58]),
  (20, List.replicate 4 (.int 0)),
  (2, [.ref 60]),
  (20, List.replicate 40 (.int 0)),
  (2, [.ref 62]),
  (20, List.replicate 16 (.int 0)),
  (4, [.int 0, .ref 64, .ref 66, .ref 68, .ref 70, .ref 72, .ref 74]),
  (2, [.ref 65]),
  (20, List.replicate 4 (.int 0)),
  (2, [.ref 67]),
  (20, List.replicate 4 (.int 0)),
  (2, [.ref 69]),
  (20, List.replicate 4 (.int 0)),
  (2, [.ref 71]),
  (20, List.replicate 4 (.int 0)),
  (2, [.ref 73]),
  (20, List.replicate 40 (.int 0)),
  (2, [.ref 75]),
  (20, List.replicate 16 (.int 0)),
  (4, [.int 0, .ref 77, .ref 79, .ref 81, .ref 83, .ref 85, .ref 87]),
  (2, [.ref 78]),
  (20, List.replicate 4 (.int 0)),
  (2, [.ref 80]),
  (20, List.replicate 4 (.int 0)),
  (2, [.ref 82]),
  (20, List.replicate 4 (.int 0)),
  (2, [.ref 84]),
  (20, List.replicate 4 (.int 0)),
  (2, [.ref 86]),
  (20, List.replicate 40 (.int 0)),
  (2, [.ref 88]),
  (20, List.replicate 16 (.int 0)),
  (4, [.int 0, .ref 90, .ref 92, .ref 94, .ref 96, .ref 98, .ref 100]),
  (2, [.ref 91]),
  (20, List.replicate 4 (.int 0)),
  (2, [.ref 93]),
  (20, List.replicate 4 (.int 0)),
  (2, [.ref 95]),
  (20, List.replicate 4 (.int 0)),
  (2, [.ref 97]),
  (20, List.replicate 4 (.int 0)),
  (2, [.ref 99]),
  (20, List.replicate 40 (.int 0)),
  (2, [.ref 101]),
  (20, List.replicate 16 (.int 0)),
  (4, [.int 0, .ref 103, .ref 105, .ref 107, .ref 109, .ref 111, .ref 113]),
  (2, [.ref 104]),
  (20, List.replicate 4 (.int 0)),
  (2, [.ref 106]),
  (20, List.replicate 4 (.int 0)),
  (2, [.ref 108]),
  (20, List.replicate 4 (.int 0)),
  (2, [.ref 110]),
  (20, List.replicate 4 (.int 0)),
  (2, [.ref 112]),
  (20, List.replicate 40 (.int 0)),
  (2, [.ref 114]),
  (20, List.replicate 16 (.int 0)),
  (4, [.int 0, .ref 116, .ref 118, .ref 120, .ref 122, .ref 124, .ref 126]),
  (2, [.ref 117]),
  (20, List.replicate 4 (.int 0)),
  (2, [.ref 119]),
  (20, List.replicate 4 (.int 0)),
  (2, [.ref 121]),
  (20, List.replicate 4 (.int 0)),
  (2, [.ref 123]),
  (20, List.replicate 4 (.int 0)),
  (2, [.ref 125]),
  (20, List.replicate 40 (.int 0)),
  (2, [.ref 127]),
  (20, List.replicate 16 (.int 0)),
  (4, [.int 0, .ref 129, .ref 131, .ref 133, .ref 135, .ref 137, .ref 139]),
  (2, [.ref 130]),
  (20, List.replicate 4 (.int 0)),
  (2, [.ref 132]),
  (20, List.replicate 4 (.int 0)),
  (2, [.ref 134]),
  (20, List.replicate 4 (.int 0)),
  (2, [.ref 136]),
  (20, List.replicate 4 (.int 0)),
  (2, [.ref 138]),
  (20, List.replicate 40 (.int 0)),
  (2, [.ref 140]),
  (20, List.replicate 16 (.int 0)),
  (4, [.int 0, .ref 142, .ref 144, .ref 146, .ref 148, .ref 150, .ref 152]),
  (2, [.ref 143]),
  (20, List.replicate 4 (.int 0)),
  (2, [.ref 145]),
  (20, List.replicate 4 (.int 0)),
  (2, [.ref 147]),
  (20, List.replicate 4 (.int 0)),
  (2, [.ref 149]),
  (20, List.replicate 4 (.int 0)),
  (2, [.ref 151]),
  (20, List.replicate 40 (.int 0)),
  (2, [.ref 153]),
  (20, List.replicate 16 (.int 0)),
  (4, [.int 0, .ref 155, .ref 157, .ref 159, .ref 161, .ref 163, .ref 165]),
  (2, [.ref 156]),
  (20, List.replicate 4 (.int 0)),
  (2, [.ref 158]),
  (20, List.replicate 4 (.int 0)),
  (2, [.ref 160]),
  (20, List.replicate 4 (.int 0)),
  (2, [.ref 162]),
  (20, List.replicate 4 (.int 0)),
  (2, [.ref 164]),
  (20, List.replicate 40 (.int 0)),
  (2, [.ref 166]),
  (20, List.replicate 16 (.int 0)),
  (4, [.int 0, .ref 168, .ref 170, .ref 172, .ref 174, .ref 176, .ref 178]),
  (2, [.ref 169]),
  (20, List.replicate 4 (.int 0)),
  (2, [.ref 171]),
  (20, List.replicate 4 (.int 0)),
  (2, [.ref 173]),
  (20, List.replicate 4 (.int 0)),
  (2, [.ref 175]),
  (20, List.replicate 4 (.int 0)),
  (2, [.ref 177]),
  (20, List.replicate 40 (.int 0)),
  (2, [.ref 179]),
  (20, List.replicate 16 (.int 0)),
  (6, [.ref 181, .int 0]),
  (2, [.ref 182]),
  (20, List.replicate 8 (.int 0)),
  (7, [.ref 184, .int 0]),
  (2, [.ref 185]),
  (20, List.replicate 10 (.int 0)),
  (8, [.ref 187, .ref 188, .ref 191, .ref 193, .int 0, .int 0, .int 0]),
  (23, [.ref 195, .null, .null, .null, .null, .null]),
  (6, [.ref 189, .int 0]),
  (2, [.ref 190]),
  (20, List.replicate 8 (.int 0)),
  (2, [.ref 192]),
  (20, List.replicate 6 (.int 0)),
  (2, [.ref 194]),
  (20, List.replicate 6 (.int 0)),
  (6, [.ref 196, .int 0]),
  (2, [.ref 197]),
  (20, List.replicate 8 (.int 0)),
  (6, [.ref 199, .int 0]),
  (2, [.ref 200]),
  (20, List.replicate 8 (.int 0))]
set_option maxRecDepth 1000000 in
theorem zck38 : zpreF (zevF 8) zpC9 73 14 74 [some (.ref 186), some (.int 0)] [] zw37 = some ([some (.ref 186), some (.int 1)], [.ref 198, .int 1, .ref 187], zw38) := by decide +kernel
def zw39 : zW := [
  (0, [.ref 1, .ref 4, .ref 19, .ref 34, .ref 47, .ref 180, .ref 183, .null, .null]),
  (1, [.ref 2, .int 0, .int 0, .int 0, .int 0]),
  (2, [.ref 3]),
  (20, List.replicate 160 (.int 0)),
  (3, [.int 0, .int 0, .int 0, .int 9, .int 0, .ref 5, .ref 7, .ref 9, .ref 11, .ref 13, .ref 15, .ref 17]),
  (2, [.ref 6]),
  (20, List.replicate 10 (.int 0)),
  (2, [.ref 8]),
  (20, List.replicate 10 (.int 0)),
  (2, [.ref 10]),
  (20, List.replicate 4 (.int 0)),
  (2, [.ref 12]),
  (20, List.replicate 4 (.int 0)),
  (2, [.ref 14]),
  (20, List.replicate 6 (.int 0)),
  (2, [.ref 16]),
  (20, List.replicate 6 (.int 0)),
  (2, [.ref 18]),
  (20, List.replicate 6 (.int 0)),
  (3, [.int 0, .int 0, .int 0, .int 9, .int 0, .ref 20, .ref 22, .ref 24, .ref 26, .ref 28, .ref 30, .ref 32]),
  (2, [.ref 21]),
  (20, List.replicate 10 (.int 0)),
  (2, [.ref 23]),
  (20, List.replicate 10 (.int 0)),
  (2, [.ref 25]),
  (20, List.replicate 4 (.int 0)),
  (2, [.ref 27]),
  (20, List.replicate 4 (.int 0)),
  (2, [.ref 29]),
  (20, List.replicate 6 (.int 0)),
  (2, [.ref 31]),
  (20, List.replicate 6 (.int 0)),
  (2, [.ref 33]),
  (20, List.replicate 6 (.int 0)),
  (4, [.int 0, .ref 35, .ref 37, .ref 39, .ref 41, .ref 43, .ref 45]),
  (2, [.ref 36]),
  (20, List.replicate 4 (.int 0)),
  (2, [.ref 38]),
  (20, List.replicate 4 (.int 0)),
  (2, [.ref 40]),
  (20, List.replicate 4 (.int 0)),
  (2, [.ref 42]),
  (20, List.replicate 4 (.int 0)),
  (2, [.ref 44]),
  (20, List.replicate 40 (.int 0)),
  (2, [.ref 46]),
  (20, List.replicate 16 (.int 0)),
  (5, [.ref 48, .ref 49, .int 0, .int 0, .int 0]),
  (22, [.ref 50, .ref 63, .ref 76, .ref 89, .ref 102, .ref 115, .ref 128, .ref 141]),
  (22, [.ref 154, .ref 167]),
  (4, [.int 0, .ref 51, .ref 53, .ref 55, .ref 57, .ref 59, .ref 61]),
  (2, [.ref 52]),
  (20, List.replicate 4 (.int 0)),
  (2, [.ref 54]),
  (20, List.replicate 4 (.int 0)),
  (2, [.ref 56]),
  (20, List.replicate 4 (.int 0)),
  (2, [.ref 58]),
  (20, List.replicate 4 (.int 0)),
  (2, [.ref 60]),
  (20, List.replicate 40 (.int 0)),
  (2, [.ref 62]),
  (20, List.replicate 16 (.int 0)),
  (4, [.int 0, .ref 64, .ref 66, .ref 68, .ref 70, .ref 72, .ref 74]),
  (2, [.ref 65]),
  (20, List.replicate 4 (.int 0)),
  (2, [.ref 67]),
  (20, List.replicate 4 (.int 0)),
  (2, [.ref 69]),
  (20, List.replicate 4 (.int 0)),
  (2, [.ref 71]),
  (20, List.replicate 4 (.int 0)),
  (2, [.ref 73]),
  (20, List.replicate 40 (.int 0)),
  (2, [.ref 75]),
  (20, List.replicate 16 (.int 0)),
  (4, [.int 0, .ref 77, .ref 79, .ref 81, .ref 83, .ref 85, .ref 87]),
  (2, [.ref 78]),
  (20, List.replicate 4 (.int 0)),
  (2, [.ref 80]),
  (20, List.replicate 4 (.int 0)),
  (2, [.ref 82]),
  (20, List.replicate 4 (.int 0)),
  (2, [.ref 84]),
  (20, List.replicate 4 (.int 0)),
  (2, [.ref 86]),
  (20, List.replicate 40 (.int 0)),
  (2, [.ref 88]),
  (20, List.replicate 16 (.int 0)),
  (4, [.int 0, .ref 90, .ref 92, .ref 94, .ref 96, .ref 98, .ref 100]),
  (2, [.ref 91]),
  (20, List.replicate 4 (.int 0)),
  (2, [.ref 93]),
  (20, List.replicate 4 (.int 0)),
  (2, [.ref 95]),
  (20, List.replicate 4 (.int 0)),
  (2, [.ref 97]),
  (20, List.replicate 4 (.int 0)),
  (2, [.ref 99]),
  (20, List.replicate 40 (.int 0)),
  (2, [.ref 101]),
  (20, List.replicate 16 (.int 0)),
  (4, [.int 0, .ref 103, .ref 105, .ref 107, .ref 109, .ref 111, .ref 113]),
  (2, [.ref 104]),
  (20, List.replicate 4 (.int 0)),
  (2, [.ref 106]),
  (20, List.replicate 4 (.int 0)),
  (2, [.ref 108]),
  (20, List.replicate 4 (.int 0)),
  (2, [.ref 110]),
  (20, List.replicate 4 (.int 0)),
  (2, [.ref 112]),
  (20, List.replicate 40 (.int 0)),
  (2, [.ref 114]),
  (20, List.replicate 16 (.int 0)),
  (4, [.int 0, .ref 116, .ref 118, .ref 120, .ref 122, .ref 124, .ref 126]),
  (2, [.ref 117]),
  (20, List.replicate 4 (.int 0)),
  (2, [.ref 119]),
  (20, List.replicate 4 (.int 0)),
  (2, [.ref 121]),
  (20, List.replicate 4 (.int 0)),
  (2, [.ref 123]),
  (20, List.replicate 4 (.int 0)),
  (2, [.ref 125]),
  (20, List.replicate 40 (.int 0)),
  (2, [.ref 127]),
  (20, List.replicate 16 (.int 0)),
  (4, [.int 0, .ref 129, .ref 131, .ref 133, .ref 135, .ref 137, .ref 139]),
  (2, [.ref 130]),
  (20, List.replicate 4 (.int 0)),
  (2, [.ref 132]),
  (20, List.replicate 4 (.int 0)),
  (2, [.ref 134]),
  (20, List.replicate 4 (.int 0)),
  (2, [.ref 136]),
  (20, List.replicate 4 (.int 0)),
  (2, [.ref 138]),
  (20, List.replicate 40 (.int 0)),
  (2, [.ref 140]),
  (20, List.replicate 16 (.int 0)),
  (4, [.int 0, .ref 142, .ref 144, .ref 146, .ref 148, .ref 150, .ref 152]),
  (2, [.ref 143]),
  (20, List.replicate 4 (.int 0)),
  (2, [.ref 145]),
  (20, List.replicate 4 (.int 0)),
  (2, [.ref 147]),
  (20, List.replicate 4 (.int 0)),
  (2, [.ref 149]),
  (20, List.replicate 4 (.int 0)),
  (2, [.ref 151]),
  (20, List.replicate 40 (.int 0)),
  (2, [.ref 153]),
  (20, List.replicate 16 (.int 0)),
  (4, [.int 0, .ref 155, .ref 157, .ref 159, .ref 161, .ref 163, .ref 165]),
  (2, [.ref 156]),
  (20, List.replicate 4 (.int 0)),
  (2, [.ref 158]),
  (20, List.replicate 4 (.int 0)),
  (2, [.ref 160]),
  (20, List.replicate 4 (.int 0)),
  (2, [.ref 162]),
  (20, List.replicate 4 (.int 0)),
  (2, [.ref 164]),
  (20, List.replicate 40 (.int 0)),
  (2, [.ref 166]),
  (20, List.replicate 16 (.int 0)),
  (4, [.int 0, .ref 168, .ref 170, .ref 172, .ref 174, .ref 176, .ref 178]),
  (2, [.ref 169]),
  (20, List.replicate 4 (.int 0)),
  (2, [.ref 171]),
  (20, List.replicate 4 (.int 0)),
  (2, [.ref 173]),
  (20, List.replicate 4 (.int 0)),
  (2, [.ref 175]),
  (20, List.replicate 4 (.int 0)),
  (2, [.ref 177]),
  (20, List.replicate 40 (.int 0)),
  (2, [.ref 179]),
  (20, List.replicate 16 (.int 0)),
  (6, [.ref 181, .int 0]),
  (2, [.ref 182]),
  (20, List.replicate 8 (.int 0)),
  (7, [.ref 184, .int 0]),
  (2, [.ref 185]),
  (20, List.replicate 10 (.int 0)),
  (8, [.ref 187, .ref 188, .ref 191, .ref 193, .int 0, .int 0, .int 0]),
  (23, [.ref 195, .ref 198, .null, .null, .null, .null]),
  (6, [.ref 189, .int 0]),
  (2, [.ref 190]),
  (20, List.replicate 8 (.int 0)),
  (2, [.ref 192]),
  (20, List.replicate 6 (.int 0)),
  (2, [.ref 194]),
  (20, List.replicate 6 (.int 0)),
  (6, [.ref 196, .int 0]),
  (2, [.ref 197]),
  (20, List.replicate 8 (.int 0)),
  (6, [.ref 199, .int 0]),
  (2, [.ref 200]),
  (20, List.replicate 8 (.int 0))]
set_option maxRecDepth 1000000 in
theorem zck39 : zpreF (zevF 8) zpC9 74 2 73 [some (.ref 186), some (.int 1)] [.ref 198, .int 1, .ref 187] zw38 = some ([some (.ref 186), some (.int 1)], [], zw39) := by decide +kernel
def zw40 : zW := [
  (0, [.ref 1, .ref 4, .ref 19, .ref 34, .ref 47, .ref 180, .ref 183, .null, .null]),
  (1, [.ref 2, .int 0, .int 0, .int 0, .int 0]),
  (2, [.ref 3]),
  (20, List.replicate 160 (.int 0)),
  (3, [.int 0, .int 0, .int 0, .int 9, .int 0, .ref 5, .ref 7, .ref 9, .ref 11, .ref 13, .ref 15, .ref 17]),
  (2, [.ref 6]),
  (20, List.replicate 10 (.int 0)),
  (2, [.ref 8]),
  (20, List.replicate 10 (.int 0)),
  (2, [.ref 10]),
  (20, List.replicate 4 (.int 0)),
  (2, [.ref 12]),
  (20, List.replicate 4 (.int 0)),
  (2, [.ref 14]),
  (20, List.replicate 6 (.int 0)),
  (2, [.ref 16]),
  (20, List.replicate 6 (.int 0)),
  (2, [.ref 18]),
  (20, List.replicate 6 (.int 0)),
  (3, [.int 0, .int 0, .int 0, .int 9, .int 0, .ref 20, .ref 22, .ref 24, .ref 26, .ref 28, .ref 30, .ref 32]),
  (2, [.ref 21]),
  (20, List.replicate 10 (.int 0)),
  (2, [.ref 23]),
  (20, List.replicate 10 (.int 0)),
  (2, [.ref 25]),
  (20, List.replicate 4 (.int 0)),
  (2, [.ref 27]),
  (20, List.replicate 4 (.int 0)),
  (2, [.ref 29]),
  (20, List.replicate 6 (.int 0)),
  (2, [.ref 31]),
  (20, List.replicate 6 (.int 0)),
  (2, [.ref 33]),
  (20, List.replicate 6 (.int 0)),
  (4, [.int 0, .ref 35, .ref 37, .ref 39, .ref 41, .ref 43, .ref 45]),
  (2, [.ref 36]),
  (20, List.replicate 4 (.int 0)),
  (2, [.ref 38]),
  (20, List.replicate 4 (.int 0)),
  (2, [.ref 40]),
  (20, List.replicate 4 (.int 0)),
  (2, [.ref 42]),
  (20, List.replicate 4 (.int 0)),
  (2, [.ref 44]),
  (20, List.replicate 40 (.int 0)),
  (2, [.ref 46]),
  (20, List.replicate 16 (.int 0)),
  (5, [.ref 48, .ref 49, .int 0, .int 0, .int 0]),
  (22, [.ref 50, .ref 63, .ref 76, .ref 89, .ref 102, .ref 115, .ref 128, .ref 141]),
  (22, [.ref 154, .ref 167]),
  (4, [.int 0, .ref 51, .ref 53, .ref 55, .ref 57, .ref 59, .ref 61]),
  (2, [.ref 52]),
  (20, List.replicate 4 (.int 0)),
  (2, [.ref 54]),
  (20, List.replicate 4 (.int 0)),
  (2, [.ref 56]),
  (20, List.replicate 4 (.int 0)),
  (2, [.ref 58]),
  (20, List.replicate 4 (.int 0)),
  (2, [.ref 60]),
  (20, List.replicate 40 (.int 0)),
  (2, [.ref 62]),
  (20, List.replicate 16 (.int 0)),
  (4, [.int 0, .ref 64, .ref 66, .ref 68, .ref 70, .ref 72, .ref 74]),
  (2, [.ref 65]),
  (20, List.replicate 4 (.int 0)),
  (2, [.ref 67]),
  (20, List.replicate 4 (.int 0)),
  (2, [.ref 69]),
  (20, List.replicate 4 (.int 0)),
  (2, [.ref 71]),
  (20, List.replicate 4 (.int 0)),
  (2, [.ref 73]),
  (20, List.replicate 40 (.int 0)),
  (2, [.ref 75]),
  (20, List.replicate 16 (.int 0)),
  (4, [.int 0, .ref 77, .ref 79, .ref 81, .ref 83, .ref 85, .ref 87]),
  (2, [.ref 78]),
  (20, List.replicate 4 (.int 0)),
  (2, [.ref 80]),
  (20, List.replicate 4 (.int 0)),
  (2, [.ref 82]),
  (20, List.replicate 4 (.int 0)),
  (2, [.ref 84]),
  (20, List.replicate 4 (.int 0)),
  (2, [.ref 86]),
  (20, List.replicate 40 (.int 0)),
  (2, [.ref 88]),
  (20, List.replicate 16 (.int 0)),
  (4, [.int 0, .ref 90, .ref 92, .ref 94, .ref 96, .ref 98, .ref 100]),
  (2, [.ref 91]),
  (20, List.replicate 4 (.int 0)),
  (2, [.ref 93]),
  (20, List.replicate 4 (.int 0)),
  (2, [.ref 95]),
  (20, List.replicate 4 (.int 0)),
  (2, [.ref 97]),
  (20, List.replicate 4 (.int 0)),
  (2, [.ref 99]),
  (20, List.replicate 40 (.int 0)),
  (2, [.ref 101]),
  (20, List.replicate 16 (.int 0)),
  (4, [.int 0, .ref 103, .ref 105, .ref 107, .ref 109, .ref 111, .ref 113]),
  (2, [.ref 104]),
  (20, List.replicate 4 (.int 0)),
  (2, [.ref 106]),
  (20, List.replicate 4 (.int 0)),
  (2, [.ref 108]),
  (20, List.replicate 4 (.int 0)),
  (2, [.ref 110]),
  (20, List.replicate 4 (.int 0)),
  (2, [.ref 112]),
  (20, List.replicate 40 (.int 0)),
  (2, [.ref 114]),
  (20, List.replicate 16 (.int 0)),
  (4, [.int 0, .ref 116, .ref 118, .ref 120, .ref 122, .ref 124, .ref 126]),
  (2, [.ref 117]),
  (20, List.replicate 4 (.int 0)),
  (2, [.ref 119]),
  (20, List.replicate 4 (.int 0)),
  (2, [.ref 121]),
  (20, List.replicate 4 (.int 0)),
  (2, [.ref 123]),
  (20, List.replicate 4 (.int 0)),
  (2, [.ref 125]),
  (20, List.replicate 40 (.int 0)),
  (2, [.ref 127]),
  (20, List.replicate 16 (.int 0)),
  (4, [.int 0, .ref 129, .ref 131, .ref 133, .ref 135, .ref 137, .ref 139]),
  (2, [.ref 130]),
  (20, List.replicate 4 (.int 0)),
  (2, [.ref 132]),
  (20, List.replicate 4 (.int 0)),
  (2, [.ref 134]),
  (20, List.replicate 4 (.int 0)),
  (2, [.ref 136]),
  (20, List.replicate 4 (.int 0)),
  (2, [.ref 138]),
  (20, List.replicate 40 (.int 0)),
  (2, [.ref 140]),
  (20, List.replicate 16 (.int 0)),
  (4, [.int 0, .ref 142, .ref 144, .ref 146, .ref 148, .ref 150, .ref 152]),
  (2, [.ref 143]),
  (20, List.replicate 4 (.int 0)),
  (2, [.ref 145]),
  (20, List.replicate 4 (.int 0)),
  (2, [.ref 147]),
  (20, List.replicate 4 (.int 0)),
  (2, [.ref 149]),
  (20, List.replicate 4 (.int 0)),
  (2, [.ref 151]),
  (20, List.replicate 40 (.int 0)),
  (2, [.ref 153]),
  (20, List.replicate 16 (.int 0)),
  (4, [.int 0, .ref 155, .ref 157, .ref 159, .ref 161, .ref 163, .ref 165]),
  (2, [.ref 156]),
  (20, List.replicate 4 (.int 0)),
  (2, [.ref 158]),
  (20, List.replicate 4 (.int 0)),
  (2, [.ref 160]),
  (20, List.replicate 4 (.int 0)),
  (2, [.ref 162]),
  (20, List.replicate 4 (.int 0)),
  (2, [.ref 164]),
  (20, List.replicate 40 (.int 0)),
  (2, [.ref 166]),
  (20, List.replicate 16 (.int 0)),
  (4, [.int 0, .ref 168, .ref 170, .ref 172, .ref 174, .ref 176, .ref 178]),
  (2, [.ref 169]),
  (20, List.replicate 4 (.int 0)),
  (2, [.ref 171]),
  (20, List.replicate 4 (.int 0)),
  (2, [.ref 173]),
  (20, List.replicate 4 (.int 0)),
  (2, [.ref 175]),
  (20, List.replicate 4 (.int 0)),
  (2, [.ref 177]),
  (20, List.replicate 40 (.int 0)),
  (2, [.ref 179]),
  (20, List.replicate 16 (.int 0)),
  (6, [.ref 181, .int 0]),
  (2, [.ref 182]),
  (20, List.replicate 8 (.int 0)),
  (7, [.ref 184, .int 0]),
  (2, [.ref 185]),
  (20, List.replicate 10 (.int 0)),
  (8, [.ref 187, .ref 188, .ref 191, .ref 193, .int 0, .int 0, .int 0]),
  (23, [.ref 195, .ref 198, .null, .null, .null, .null]),
  (6, [.ref 189, .int 0]),
  (2, [.ref 190]),
  (20, List.replicate 8 (.int 0)),
  (2, [.ref 192]),
  (20, List.replicate 6 (.int 0)),
  (2, [.ref 194]),
  (20, List.replicate 6 (.int 0)),
  (6, [.ref 196, .int 0]),
  (2, [.ref 197]),
  (20, List.replicate 8 (.int 0)),
  (6, [.ref 199, .int 0]),
  (2, [.ref 200]),
  (20, List.replicate 8 (.int 0)),
  (6, [.ref 202, .int 0]),
  (2, [.ref 203]),
  (20, List.replicate 8 (.int 0))]
set_option maxRecDepth 1000000 in
theorem zck40 : zpreF (zevF 8) zpC9 73 14 74 [some (.ref 186), some (.int 1)] [] zw39 = some ([some (.ref 186), some (.int 2)], [.ref 201, .int 2, .ref 187], zw40) := by decide +kernel
def zw41 : zW := [
  (0, [.ref 1, .ref 4, .ref 19, .ref 34, .ref 47, .ref 180, .ref 183, .null, .null]),
  (1, [.ref 2, .int 0, .int 0, .int 0, .int 0]),
  (2, [.ref 3]),
  (20, List.replicate 160 (.int 0)),
  (3, [.int 0, .int 0, .int 0, .int 9, .int 0, .ref 5, .ref 7, .ref 9, .ref 11, .ref 13, .ref 15, .ref 17]),
  (2, [.ref 6]),
  (20, List.replicate 10 (.int 0)),
  (2, [.ref 8]),
  (20, List.replicate 10 (.int 0)),
  (2, [.ref 10]),
  (20, List.replicate 4 (.int 0)),
  (2, [.ref 12]),
  (20, List.replicate 4 (.int 0)),
  (2, [.ref 14]),
  (20, List.replicate 6 (.int 0)),
  (2, [.ref 16]),
  (20, List.replicate 6 (.int 0)),
  (2, [.ref 18]),
  (20, List.replicate 6 (.int 0)),
  (3, [.int 0, .int 0, .int 0, .int 9, .int 0, .ref 20, .ref 22, .ref 24, .ref 26, .ref 28, .ref 30, .ref 32]),
  (2, [.ref 21]),
  (20, List.replicate 10 (.int 0)),
  (2, [.ref 23]),
  (20, List.replicate 10 (.int 0)),
  (2, [.ref 25]),
  (20, List.replicate 4 (.int 0)),
  (2, [.ref 27]),
  (20, List.replicate 4 (.int 0)),
  (2, [.ref 29]),
  (20, List.replicate 6 (.int 0)),
  (2, [.ref 31]),
  (20, List.replicate 6 (.int 0)),
  (2, [.ref 33]),
  (20, List.replicate 6 (.int 0)),
  (4, [.int 0, .ref 35, .ref 37, .ref 39, .ref 41, .ref 43, .ref 45]),
  (2, [.ref 36]),
  (20, List.replicate 4 (.int 0)),
  (2, [.ref 38]),
  (20, List.replicate 4 (.int 0)),
  (2, [.ref 40]),
  (20, List.replicate 4 (.int 0)),
  (2, [.ref 42]),
  (20, List.replicate 4 (.int 0)),
  (2, [.ref 44]),
  (20, List.replicate 40 (.int 0)),
  (2, [.ref 46]),
  (20, List.replicate 16 (.int 0)),
  (5, [.ref 48, .ref 49, .int 0, .int 0, .int 0]),
  (22, [.ref 50, .ref 63, .ref 76, .ref 89, .ref 102, .ref 115, .ref 128, .ref 141]),
  (22, [.ref 154, .ref 167]),
  (4, [.int 0, .ref 51, .ref 53, .ref 55, .ref 57, .ref 59, .ref 61]),
  (2, [.ref 52]),
  (20, List.replicate 4 (.int 0)),
  (2, [.ref 54]),
  (20, List.replicate 4 (.int 0)),
  (2, [.ref 56]),
  (20, List.replicate 4 (.int 0)),
  (2, [.ref 58]),
  (20, List.replicate 4 (.int 0)),
  (2, [.ref 60]),
  (20, List.replicate 40 (.int 0)),
  (2, [.ref 62]),
  (20, List.replicate 16 (.int 0)),
  (4, [.int 0, .ref 64, .ref 66, .ref 68, .ref 70, .ref 72, .ref 74]),
  (2, [.ref 65]),
  (20, List.replicate 4 (.int 0)),
  (2, [.ref 67]),
  (20, List.replicate 4 (.int 0)),
  (2, [.ref 69]),
  (20, List.replicate 4 (.int 0)),
  (2, [.ref 71]),
  (20, List.replicate 4 (.int 0)),
  (2, [.ref 73]),
  (20, List.replicate 40 (.int 0)),
  (2, [.ref 75]),
  (20, List.replicate 16 (.int 0)),
  (4, [.int 0, .ref 77, .ref 79, .ref 81, .ref 83, .ref 85, .ref 87]),
  (2, [.ref 78]),
  (20, List.replicate 4 (.int 0)),
  (2, [.ref 80]),
  (20, List.replicate 4 (.int 0)),
  (2, [.ref 82]),
  (20, List.replicate 4 (.int 0)),
  (2, [.ref 84]),
  (20, List.replicate 4 (.int 0)),
  (2, [.ref 86]),
  (20, List.replicate 40 (.int 0)),
  (2, [.ref 88]),
  (20, List.replicate 16 (.int 0)),
  (4, [.int 0, .ref 90, .ref 92, .ref 94, .ref 96, .ref 98, .ref 100]),
  (2, [.ref 91]),
  (20, List.replicate 4 (.int 0)),
  (2, [.ref 93]),
  (20, List.replicate 4 (.int 0)),
  (2, [.ref 95]),
  (20, List.replicate 4 (.int 0)),
  (2, [.ref 97]),
  (20, List.replicate 4 (.int 0)),
  (2, [.ref 99]),
  (20, List.replicate 40 (.int 0)),
  (2, [.ref 101]),
  (20, List.replicate 16 (.int 0)),
  (4, [.int 0, .ref 103, .ref 105, .ref 107, .ref 109, .ref 111, .ref 113]),
  (2, [.ref 104]),
  (20, List.replicate 4 (.int 0)),
  (2, [.ref 106]),
  (20, List.replicate 4 (.int 0)),
  (2, [.ref 108]),
  (20, List.replicate 4 (.int 0)),
  (2, [.ref 110]),
  (20, List.replicate 4 (.int 0)),
  (2, [.ref 112]),
  (20, List.replicate 40 (.int 0)),
  (2, [.ref 114]),
  (20, List.replicate 16 (.int 0)),
  (4, [.int 0, .ref 116, .ref 118, .ref 120, .ref 122, .ref 124, .ref 126]),
  (2, [.ref 117]),
  (20, List.replicate 4 (.int 0)),
  (2, [.ref 119]),
  (20, List.replicate 4 (.int 0)),
  (2, [.ref 121]),
  (20, List.replicate 4 (.int 0)),
  (2, [.ref 123]),
  (20, List.replicate 4 (.int 0)),
  (2, [.ref 125]),
  (20, List.replicate 40 (.int 0)),
  (2, [.ref 127]),
  (20, List.replicate 16 (.int 0)),
  (4, [.int 0, .ref 129, .ref 131, .ref 133, .ref 135, .ref 137, .ref 139]),
  (2, [.ref 130]),
  (20, List.replicate 4 (.int 0)),
  (2, [.ref 132]),
  (20, List.replicate 4 (.int 0)),
  (2, [.ref 134]),
  (20, List.replicate 4 (.int 0)),
  (2, [.ref 136]),
  (20, List.replicate 4 (.int 0)),
  (2, [.ref 138]),
  (20, List.replicate 40 (.int 0)),
  (2, [.ref 140]),
  (20, List.replicate 16 (.int 0)),
  (4, [.int 0, .ref 142, .ref 144, .ref 146, .ref 148, .ref 150, .ref 152]),
  (2, [.ref 143]),
  (20, List.replicate 4 (.int 0)),
  (2, [.ref 145]),
  (20, List.replicate 4 (.int 0)),
  (2, [.ref 147]),
  (20, List.replicate 4 (.int 0)),
  (2, [.ref 149]),
  (20, List.replicate 4 (.int 0)),
  (2, [.ref 151]),
  (20, List.replicate 40 (.int 0)),
  (2, [.ref 153]),
  (20, List.replicate 16 (.int 0)),
  (4, [.int 0, .ref 155, .ref 157, .ref 159, .ref 161, .ref 163, .ref 165]),
  (2, [.ref 156]),
  (20, List.replicate 4 (.int 0)),
  (2, [.ref 158]),
  (20, List.replicate 4 (.int 0)),
  (2, [.ref 160]),
  (20, List.replicate 4 (.int 0)),
  (2, [.ref 162]),
  (20, List.replicate 4 (.int 0)),
  (2, [.ref 164]),
  (20, List.replicate 40 (.int 0)),
  (2, [.ref 166]),
  (20, List.replicate 16 (.int 0)),
  (4, [.int 0, .ref 168, .ref 170, .ref 172, .ref 174, .ref 176, .ref 178]),
  (2, [.ref 169]),
  (20, List.replicate 4 (.int 0)),
  (2, [.ref 171]),
  (20, List.replicate 4 (.int 0)),
  (2, [.ref 173]),
  (20, List.replicate 4 (.int 0)),
  (2, [.ref 175]),
  (20, List.replicate 4 (.int 0)),
  (2, [.ref 177]),
  (20, List.replicate 40 (.int 0)),
  (2, [.ref 179]),
  (20, List.replicate 16 (.int 0)),
  (6, [.ref 181, .int 0]),
  (2, [.ref 182]),
  (20, List.replicate 8 (.int 0)),
  (7, [.ref 184, .int 0]),
  (2, [.ref 185]),
  (20, List.replicate 10 (.int 0)),
  (8, [.ref 187, .ref 188, .ref 191, .ref 193, .int 0, .int 0, .int 0]),
  (23, [.ref 195, .ref 198, .ref 201, .null, .null, .null]),
  (6, [.ref 189, .int 0]),
  (2, [.ref 190]),
  (20, List.replicate 8 (.int 0)),
  (2, [.ref 192]),
  (20, List.replicate 6 (.int 0)),
  (2, [.ref 194]),
  (20, List.replicate 6 (.int 0)),
  (6, [.ref 196, .int 0]),
  (2, [.ref 197]),
  (20, List.replicate 8 (.int 0)),
  (6, [.ref 199, .int 0]),
  (2, [.ref 200]),
  (20, List.replicate 8 (.int 0)),
  (6, [.ref 202, .int 0]),
  (2, [.ref 203]),
  (20, List.replicate 8 (.int 0))]
set_option maxRecDepth 1000000 in
theorem zck41 : zpreF (zevF 8) zpC9 74 2 73 [some (.ref 186), some (.int 2)] [.ref 201, .int 2, .ref 187] zw40 = some ([some (.ref 186), some (.int 2)], [], zw41) := by decide +kernel
def zw42 : zW := [
  (0, [.ref 1, .ref 4, .ref 19, .ref 34, .ref 47, .ref 180, .ref 183, .null, .null]),
  (1, [.ref 2, .int 0, .int 0, .int 0, .int 0]),
  (2, [.ref 3]),
  (20, List.replicate 160 (.int 0)),
  (3, [.int 0, .int 0, .int 0, .int 9, .int 0, .ref 5, .ref 7, .ref 9, .ref 11, .ref 13, .ref 15, .ref 17]),
  (2, [.ref 6]),
  (20, List.replicate 10 (.int 0)),
  (2, [.ref 8]),
  (20, List.replicate 10 (.int 0)),
  (2, [.ref 10]),
  (20, List.replicate 4 (.int 0)),
  (2, [.ref 12]),
  (20, List.replicate 4 (.int 0)),
  (2, [.ref 14]),
  (20, List.replicate 6 (.int 0)),
  (2, [.ref 16]),
  (20, List.replicate 6 (.int 0)),
  (2, [.ref 18]),
  (20, List.replicate 6 (.int 0)),
  (3, [.int 0, .int 0, .int 0, .int 9, .int 0, .ref 20, .ref 22, .ref 24, .ref 26, .ref 28, .ref 30, .ref 32]),
  (2, [.ref 21]),
  (20, List.replicate 10 (.int 0)),
  (2, [.ref 23]),
  (20, List.replicate 10 (.int 0)),
  (2, [.ref 25]),
  (20, List.replicate 4 (.int 0)),
  (2, [.ref 27]),
  (20, List.replicate 4 (.int 0)),
  (2, [.ref 29]),
  (20, List.replicate 6 (.int 0)),
  (2, [.ref 31]),
  (20, List.replicate 6 (.int 0)),
  (2, [.ref 33]),
  (20, List.replicate 6 (.int 0)),
  (4, [.int 0, .ref 35, .ref 37, .ref 39, .ref 41, .ref 43, .ref 45]),
  (2, [.ref 36]),
  (20, List.replicate 4 (.int 0)),
  (2, [.ref 38]),
  (20, List.replicate 4 (.int 0)),
  (2, [.ref 40]),
  (20, List.replicate 4 (.int 0)),
  (2, [.ref 42]),
  (20, List.replicate 4 (.int 0)),
  (2, [.ref 44]),
  (20, List.replicate 40 (.int 0)),
  (2, [.ref 46]),
  (20, List.replicate 16 (.int 0)),
  (5, [.ref 48, .ref 49, .int 0, .int 0, .int 0]),
  (22, [.ref 50, .ref 63, .ref 76, .ref 89, .ref 102, .ref 115, .ref 128, .ref 141]),
  (22, [.ref 154, .ref 167]),
  (4, [.int 0, .ref 51, .ref 53, .ref 55, .ref 57, .ref 59, .ref 61]),
  (2, [.ref 52]),
  (20, List.replicate 4 (.int 0)),
  (2, [.ref 54]),
  (20, List.replicate 4 (.int 0)),
  (2, [.ref 56]),
  (20, List.replicate 4 (.int 0)),
  (2, [.ref 58]),
  (20, List.replicate 4 (.int 0)),
  (2, [.ref 60]),
  (20, List.replicate 40 (.int 0)),
  (2, [.ref 62]),
  (20, List.replicate 16 (.int 0)),
  (4, [.int 0, .ref 64, .ref 66, .ref 68, .ref 70, .ref 72, .ref 74]),
  (2, [.ref 65]),
  (20, List.replicate 4 (.int 0)),
  (2, [.ref 67]),
  (20, List.replicate 4 (.int 0)),
  (2, [.ref 69]),
  (20, List.replicate 4 (.int 0)),
  (2, [.ref 71]),
  (20, List.replicate 4 (.int 0)),
  (2, [.ref 73]),
  (20, List.replicate 40 (.int 0)),
  (2, [.ref 75]),
  (20, List.replicate 16 (.int 0)),
  (4, [.int 0, .ref 77, .ref 79, .ref 81, .ref 83, .ref 85, .ref 87]),
  (2, [.ref 78]),
  (20, List.replicate 4 (.int 0)),
  (2, [.ref 80]),
  (20, List.replicate 4 (.int 0)),
  (2, [.ref 82]),
  (20, List.replicate 4 (.int 0)),
  (2, [.ref 84]),
  (20, List.replicate 4 (.int 0)),
  (2, [.ref 86]),
  (20, List.replicate 40 (.int 0)),
  (2, [.ref 88]),
  (20, List.replicate 16 (.int 0)),
  (4, [.int 0, .ref 90, .ref 92, .ref 94, .ref 96, .ref 98, .ref 100]),
  (2, [.ref 91]),
  (20, List.replicate 4 (.int 0)),
  (2, [.ref 93]),
  (20, List.replicate 4 (.int 0)),
  (2, [.ref 95]),
  (20, List.replicate 4 (.int 0)),
  (2, [.ref 97]),
  (20, List.replicate 4 (.int 0)),
  (2, [.ref 99]),
  (20, List.replicate 40 (.int 0)),
  (2, [.ref 101]),
  (20, List.replicate 16 (.int 0)),
  (4, [.int 0, .ref 103, .ref 105, .ref 107, .ref 109, .ref 111, .ref 113]),
  (2, [.ref 104]),
  (20, List.replicate 4 (.int 0)),
  (2, [.ref 106]),
  (20, List.replicate 4 (.int 0)),
  (2, [.ref 108]),
  (20, List.replicate 4 (.int 0)),
  (2, [.ref 110]),
  (20, List.replicate 4 (.int 0)),
  (2, [.ref 112]),
  (20, List.replicate 40 (.int 0)),
  (2, [.ref 114]),
  (20, List.replicate 16 (.int 0)),
  (4, [.int 0, .ref 116, .ref 118, .ref 120, .ref 122, .ref 124, .ref 126]),
  (2, [.ref 117]),
  (20, List.replicate 4 (.int 0)),
  (2, [.ref 119]),
  (20, List.replicate 4 (.int 0)),
  (2, [.ref 121]),
  (20, List.replicate 4 (.int 0)),
  (2, [.ref 123]),
  (20, List.replicate 4 (.int 0)),
  (2, [.ref 125]),
  (20, List.replicate 40 (.int 0)),
  (2, [.ref 127]),
  (20, List.replicate 16 (.int 0)),
  (4, [.int 0, .ref 129, .ref 131, .ref 133, .ref 135, .ref 137, .ref 139]),
  (2, [.ref 130]),
  (20, List.replicate 4 (.int 0)),
  (2, [.ref 132]),
  (20, List.replicate 4 (.int 0)),
  (2, [.ref 134]),
  (20, List.replicate 4 (.int 0)),
  (2, [.ref 136]),
  (20, List.replicate 4 (.int 0)),
  (2, [.ref 138]),
  (20, List.replicate 40 (.int 0)),
  (2, [.ref 140]),
  (20, List.replicate 16 (.int 0)),
  (4, [.int 0, .ref 142, .ref 144, .ref 146, .ref 148, .ref 150, .ref 152]),
  (2, [.ref 143]),
  (20, List.replicate 4 (.int 0)),
  (2, [.ref 145]),
  (20, List.replicate 4 (.int 0)),
  (2, [.ref 147]),
  (20, List.replicate 4 (.int 0)),
  (2, [.ref 149]),
  (20, List.replicate 4 (.int 0)),
  (2, [.ref 151]),
  (20, List.replicate 40 (.int 0)),
  (2, [.ref 153]),
  (20, List.replicate 16 (.int 0)),
  (4, [.int 0, .ref 155, .ref 157, .ref 159, .ref 161, .ref 163, .ref 165]),
  (2, [.ref 156]),
  (20, List.replicate 4 (.int 0)),
  (2, [.ref 158]),
  (20, List.replicate 4 (.int 0)),
  (2, [.ref 160]),
  (20, List.replicate 4 (.int 0)),
  (2, [.ref 162]),
  (20, List.replicate 4 (.int 0)),
  (2, [.ref 164]),
  (20, List.replicate 40 (.int 0)),
  (2, [.ref 166]),
  (20, List.replicate 16 (.int 0)),
  (4, [.int 0, .ref 168, .ref 170, .ref 172, .ref 174, .ref 176, .ref 178]),
  (2, [.ref 169]),
  (20, List.replicate 4 (.int 0)),
  (2, [.ref 171]),
  (20, List.replicate 4 (.int 0)),
  (2, [.ref 173]),
  (20, List.replicate 4 (.int 0)),
  (2, [.ref 175]),
  (20, List.replicate 4 (.int 0)),
  (2, [.ref 177]),
  (20, List.replicate 40 (.int 0)),
  (2, [.ref 179]),
  (20, List.replicate 16 (.int 0)),
  (6, [.ref 181, .int 0]),
  (2, [.ref 182]),
  (20, List.replicate 8 (.int 0)),
  (7, [.ref 184, .int 0]),
  (2, [.ref 185]),
  (20, List.replicate 10 (.int 0)),
  (8, [.ref 187, .ref 188, .ref 191, .ref 193, .int 0, .int 0, .int 0]),
  (23, [.ref 195, .ref 198, .ref 201, .null, .null, .null]),
  (6, [.ref 189, .int 0]),
  (2, [.ref 190]),
  (20, List.replicate 8 (.int 0)),
  (2, [.ref 192]),
  (20, List.replicate 6 (.int 0)),
  (2, [.ref 194]),
  (20, List.replicate 6 (.int 0)),
  (6, [.ref 196, .int 0]),
  (2, [.ref 197]),
  (20, List.replicate 8 (.int 0)),
  (6, [.ref 199, .int 0]),
  (2, [.ref 200]),
  (20, List.replicate 8 (.int 0)),
  (6, [.ref 202, .int 0]),
  (2, [.ref 203]),
  (20, List.replicate 8 (.int 0)),
  (6, [.ref 205, .int 0]),
  (2, [.ref 206]),
  (20, List.replicate 8 (.int 0))]
set_option maxRecDepth 1000000 in
theorem zck42 : zpreF (zevF 8) zpC9 73 14 74 [some (.ref 186), some (.int 2)] [] zw41 = some ([some (.ref 186), some (.int 3)], [.ref 204, .int 3, .ref 187], zw42) := by decide +kernel
def zw43 : zW := [
  (0, [.ref 1, .ref 4, .ref 19, .ref 34, .ref 47, .ref 180, .ref 183, .null, .null]),
  (1, [.ref 2, .int 0, .int 0, .int 0, .int 0]),
  (2, [.ref 3]),
  (20, List.replicate 160 (.int 0)),
  (3, [.int 0, .int 0, .int 0, .int 9, .int 0, .ref 5, .ref 7, .ref 9, .ref 11, .ref 13, .ref 15, .ref 17]),
  (2, [.ref 6]),
  (20, List.replicate 10 (.int 0)),
  (2, [.ref 8]),
  (20, List.replicate 10 (.int 0)),
  (2, [.ref 10]),
  (20, List.replicate 4 (.int 0)),
  (2, [.ref 12]),
  (20, List.replicate 4 (.int 0)),
  (2, [.ref 14]),
  (20, List.replicate 6 (.int 0)),
  (2, [.ref 16]),
  (20, List.replicate 6 (.int 0)),
  (2, [.ref 18]),
  (20, List.replicate 6 (.int 0)),
  (3, [.int 0, .int 0, .int 0, .int 9, .int 0, .ref 20, .ref 22, .ref 24, .ref 26, .ref 28, .ref 30, .ref 32]),
  (2, [.ref 21]),
  (20, List.replicate 10 (.int 0)),
  (2, [.ref 23]),
  (20, List.replicate 10 (.int 0)),
  (2, [.ref 25]),
  (20, List.replicate 4 (.int 0)),
  (2, [.ref 27]),
  (20, List.replicate 4 (.int 0)),
  (2, [.ref 29]),
  (20, List.replicate 6 (.int 0)),
  (2, [.ref 31]),
  (20, List.replicate 6 (.int 0)),
  (2, [.ref 33]),
  (20, List.replicate 6 (.int 0)),
  (4, [.int 0, .ref 35, .ref 37, .ref 39, .ref 41, .ref 43, .ref 45]),
  (2, [.ref 36]),
  (20, List.replicate 4 (.int 0)),
  (2, [.ref 38]),
  (20, List.replicate 4 (.int 0)),
  (2, [.ref 40]),
  (20, List.replicate 4 (.int 0)),
  (2, [.ref 42]),
  (20, List.replicate 4 (.int 0)),
  (2, [.ref 44]),
  (20, List.replicate 40 (.int 0)),
  (2, [.ref 46]),
  (20, List.replicate 16 (.int 0)),
  (5, [.ref 48, .ref 49, .int 0, .int 0, .int 0]),
  (22, [.ref 50, .ref 63, .ref 76, .ref 89, .ref 102, .ref 115, .ref 128, .ref 141]),
  (22, [.ref 154, .ref 167]),
  (4, [.int 0, .ref 51, .ref 53, .ref 55, .ref 57, .ref 59, .ref 61]),
  (2, [.ref 52]),
  (20, List.replicate 4 (.int 0)),
  (2, [.ref 54]),
  (20, List.replicate 4 (.int 0)),
  (2, [.ref 56]),
  (20, List.replicate 4 (.int 0)),
  (2, [.ref 58]),
  (20, List.replicate 4 (.int 0)),
  (2, [.ref 60]),
  (20, List.replicate 40 (.int 0)),
  (2, [.ref 62]),
  (20, List.replicate 16 (.int 0)),
  (4, [.int 0, .ref 64, .ref 66, .ref 68, .ref 70, .ref 72, .ref 74]),
  (2, [.ref 65]),
  (20, List.replicate 4 (.int 0)),
  (2, [.ref 67]),
  (20, List.replicate 4 (.int 0)),
  (2, [.ref 69]),
  (20, List.replicate 4 (.int 0)),
  (2, [.ref 71]),
  (20, List.replicate 4 (.int 0)),
  (2, [.ref 73]),
  (20, List.replicate 40 (.int 0)),
  (2, [.ref 75]),
  (20, List.replicate 16 (.int 0)),
  (4, [.int 0, .ref 77, .ref 79, .ref 81, .ref 83, .ref 85, .ref 87]),
  (2, [.ref 78]),
  (20, List.replicate 4 (.int 0)),
  (2, [.ref 80]),
  (20, List.replicate 4 (.int 0)),
  (2, [.ref 82]),
  (20, List.replicate 4 (.int 0)),
  (2, [.ref 84]),
  (20, List.replicate 4 (.int 0)),
  (2, [.ref 86]),
  (20, List.replicate 40 (.int 0)),
  (2, [.ref 88]),
  (20, List.replicate 16 (.int 0)),
  (4, [.int 0, .ref 90, .ref 92, .ref 94, .ref 96, .ref 98, .ref 100]),
  (2, [.ref 91]),
  (20, List.replicate 4 (.int 0)),
  (2, [.ref 93]),
  (20, List.replicate 4 (.int 0)),
  (2, [.ref 95]),
  (20, List.replicate 4 (.int 0)),
  (2, [.ref 97]),
  (20, List.replicate 4 (.int 0)),
  (2, [.ref 99]),
  (20, List.replicate 40 (.int 0)),
  (2, [.ref 101]),
  (20, List.replicate 16 (.int 0)),
  (4, [.int 0, .ref 103, .ref 105, .ref 107, .ref 109, .ref 111, .ref 113]),
  (2, [.ref 104]),
  (20, List.replicate 4 (.int 0)),
  (2, [.ref 106]),
  (20, List.replicate 4 (.int 0)),
  (2, [.ref 108]),
  (20, List.replicate 4 (.int 0)),
  (2, [.ref 110]),
  (20, List.replicate 4 (.int 0)),
  (2, [.ref 112]),
  (20, List.replicate 40 (.int 0)),
  (2, [.ref 114]),
  (20, List.replicate 16 (.int 0)),
  (4, [.int 0, .ref 116, .ref 118, .ref 120, .ref 122, .ref 124, .ref 126]),
  (2, [.ref 117]),
  (20, List.replicate 4 (.int 0)),
  (2, [.ref 119]),
  (20, List.replicate 4 (.int 0)),
  (2, [.ref 121]),
  (20, List.replicate 4 (.int 0)),
  (2, [.ref 123]),
  (20, List.replicate 4 (.int 0)),
  (2, [.ref 125]),
  (20, List.replicate 40 (.int 0)),
  (2, [.ref 127]),
  (20, List.replicate 16 (.int 0)),
  (4, [.int 0, .ref 129, .ref 131, .ref 133, .ref 135, .ref 137, .ref 139]),
  (2, [.ref 130]),
  (20, List.replicate 4 (.int 0)),
  (2, [.ref 132]),
  (20, List.replicate 4 (.int 0)),
  (2, [.ref 134]),
  (20, List.replicate 4 (.int 0)),
  (2, [.ref 136]),
  (20, List.replicate 4 (.int 0)),
  (2, [.ref 138]),
  (20, List.replicate 40 (.int 0)),
  (2, [.ref 140]),
  (20, List.replicate 16 (.int 0)),
  (4, [.int 0, .ref 142, .ref 144, .ref 146, .ref 148, .ref 150, .ref 152]),
  (2, [.ref 143]),
  (20, List.replicate 4 (.int 0)),
  (2, [.ref 145]),
  (20, List.replicate 4 (.int 0)),
  (2, [.ref 147]),
  (20, List.replicate 4 (.int 0)),
  (2, [.ref 149]),
  (20, List.replicate 4 (.int 0)),
  (2, [.ref 151]),
  (20, List.replicate 40 (.int 0)),
  (2, [.ref 153]),
  (20, List.replicate 16 (.int 0)),
  (4, [.int 0, .ref 155, .ref 157, .ref 159, .ref 161, .ref 163, .ref 165]),
  (2, [.ref 156]),
  (20, List.replicate 4 (.int 0)),
  (2, [.ref 158]),
  (20, List.replicate 4 (.int 0)),
  (2, [.ref 160]),
  (20, List.replicate 4 (.int 0)),
  (2, [.ref 162]),
  (20, List.replicate 4 (.int 0)),
  (2, [.ref 164]),
  (20, List.replicate 40 (.int 0)),
  (2, [.ref 166]),
  (20, List.replicate 16 (.int 0)),
  (4, [.int 0, .ref 168, .ref 170, .ref 172, .ref 174, .ref 176, .ref 178]),
  (2, [.ref 169]),
  (20, List.replicate 4 (.int 0)),
  (2, [.ref 171]),
  (20, List.replicate 4 (.int 0)),
  (2, [.ref 173]),
  (20, List.replicate 4 (.int 0)),
  (2, [.ref 175]),
  (20, List.replicate 4 (.int 0)),
  (2, [.ref 177]),
  (20, List.replicate 40 (.int 0)),
  (2, [.ref 179]),
  (20, List.replicate 16 (.int 0)),
  (6, [.ref 181, .int 0]),
  (2, [.ref 182]),
  (20, List.replicate 8 (.int 0)),
  (7, [.ref 184, .int 0]),
  (2, [.ref 185]),
  (20, List.replicate 10 (.int 0)),
  (8, [.ref 187, .ref 188, .ref 191, .ref 193, .int 0, .int 0, .int 0]),
  (23, [.ref 195, .ref 198, .ref 201, .ref 204, .null, .null]),
  (6, [.ref 189, .int 0]),
  (2, [.ref 190]),
  (20, List.replicate 8 (.int 0)),
  (2, [.ref 192]),
  (20, List.replicate 6 (.int 0)),
  (2, [.ref 194]),
  (20, List.replicate 6 (.int 0)),
  (6, [.ref 196, .int 0]),
  (2, [.ref 197]),
  (20, List.replicate 8 (.int 0)),
  (6, [.ref 199, .int 0]),
  (2, [.ref 200]),
  (20, List.replicate 8 (.int 0)),
  (6, [.ref 202, .int 0]),
  (2, [.ref 203]),
  (20, List.replicate 8 (.int 0)),
  (6, [.ref 205, .int 0]),
  (2, [.ref 206]),
  (20, List.replicate 8 (.int 0))]
set_option maxRecDepth 1000000 in
theorem zck43 : zpreF (zevF 8) zpC9 74 2 73 [some (.ref 186), some (.int 3)] [.ref 204, .int 3, .ref 187] zw42 = some ([some (.ref 186), some (.int 3)], [], zw43) := by decide +kernel
def zw44 : zW := [
  (0, [.ref 1, .ref 4, .ref 19, .ref 34, .ref 47, .ref 180, .ref 183, .null, .null]),
  (1, [.ref 2, .int 0, .int 0, .int 0, .int 0]),
  (2, [.ref 3]),
  (20, List.replicate 160 (.int 0)),
  (3, [.int 0, .int 0, .int 0, .int 9, .int 0, .ref 5, .ref 7, .ref 9, .ref 11, .ref 13, .ref 15, .ref 17]),
  (2, [.ref 6]),
  (20, List.replicate 10 (.int 0)),
  (2, [.ref 8]),
  (20, List.replicate 10 (.int 0)),
  (2, [.ref 10]),
  (20, List.replicate 4 (.int 0)),
  (2, [.ref 12]),
  (20, List.replicate 4 (.int 0)),
  (2, [.ref 14]),
  (20, List.replicate 6 (.int 0)),
  (2, [.ref 16]),
  (20, List.replicate 6 (.int 0)),
  (2, [.ref 18]),
  (20, List.replicate 6 (.int 0)),
  (3, [.int 0, .int 0, .int 0, .int 9, .int 0, .ref 20, .ref 22, .ref 24, .ref 26, .ref 28, .ref 30, .ref 32]),
  (2, [.ref 21]),
  (20, List.replicate 10 (.int 0)),
  (2, [.ref 23]),
  (20, List.replicate 10 (.int 0)),
  (2, [.ref 25]),
  (20, List.replicate 4 (.int 0)),
  (2, [.ref 27]),
  (20, List.replicate 4 (.int 0)),
  (2, [.ref 29]),
  (20, List.replicate 6 (.int 0)),
  (2, [.ref 31]),
  (20, List.replicate 6 (.int 0)),
  (2, [.ref 33]),
  (20, List.replicate 6 (.int 0)),
  (4, [.int 0, .ref 35, .ref 37, .ref 39, .ref 41, .ref 43, .ref 45]),
  (2, [.ref 36]),
  (20, List.replicate 4 (.int 0)),
  (2, [.ref 38]),
  (20, List.replicate 4 (.int 0)),
  (2, [.ref 40]),
  (20, List.replicate 4 (.int 0)),
  (2, [.ref 42]),
  (20, List.replicate 4 (.int 0)),
  (2, [.ref 44]),
  (20, List.replicate 40 (.int 0)),
  (2, [.ref 46]),
  (20, List.replicate 16 (.int 0)),
  (5, [.ref 48, .ref 49, .int 0, .int 0, .int 0]),
  (22, [.ref 50, .ref 63, .ref 76, .ref 89, .ref 102, .ref 115, .ref 128, .ref 141]),
  (22, [.ref 154, .ref 167]),
  (4, [.int 0, .ref 51, .ref 53, .ref 55, .ref 57, .ref 59, .ref 61]),
  (2, [.ref 52]),
  (20, List.replicate 4 (.int 0)),
  (2, [.ref 54]),
  (20, List.replicate 4 (.int 0)),
  (2, [.ref 56]),
  (20, List.replicate 4 (.int 0)),
  (2, [.ref 58]),
  (20, List.replicate 4 (.int 0)),
  (2, [.ref 60]),
  (20, List.replicate 40 (.int 0)),
  (2, [.ref 62]),
  (20, List.replicate 16 (.int 0)),
  (4, [.int 0, .ref 64, .ref 66, .ref 68, .ref 70, .ref 72, .ref 74]),
  (2, [.ref 65]),
  (20, List.replicate 4 (.int 0)),
  (2, [.ref 67]),
  (20, List.replicate 4 (.int 0)),
  (2, [.ref 69]),
  (20, List.replicate 4 (.int 0)),
  (2, [.ref 71]),
  (20, List.replicate 4 (.int 0)),
  (2, [.ref 73]),
  (20, List.replicate 40 (.int 0)),
  (2, [.ref 75]),
  (20, List.replicate 16 (.int 0)),
  (4, [.int 0, .ref 77, .ref 79, .ref 81, .ref 83, .ref 85, .ref 87]),
  (2, [.ref 78]),
  (20, List.replicate 4 (.int 0)),
  (2, [.ref 80]),
  (20, List.replicate 4 (.int 0)),
  (2, [.ref 82]),
  (20, List.replicate 4 (.int 0)),
  (2, [.ref 84]),
  (20, List.replicate 4 (.int 0)),
  (2, [.ref 86]),
  (20, List.replicate 40 (.int 0)),
  (2, [.ref 88]),
  (20, List.replicate 16 (.int 0)),
  (4, [.int 0, .ref 90, .ref 92, .ref 94, .ref 96, .ref 98, .ref 100]),
  (2, [.ref 91]),
  (20, List.replicate 4 (.int 0)),
  (2, [.ref 93]),
  (20, List.replicate 4 (.int 0)),
  (2, [.ref 95]),
  (20, List.replicate 4 (.int 0)),
  (2, [.ref 97]),
  (20, List.replicate 4 (.int 0)),
  (2, [.ref 99]),
  (20, List.replicate 40 (.int 0)),
  (2, [.ref 101]),
  (20, List.replicate 16 (.int 0)),
  (4, [.int 0, .ref 103, .ref 105, .ref 107, .ref 109, .ref 111, .ref 113]),
  (2, [.ref 104]),
  (20, List.replicate 4 (.int 0)),
  (2, [.ref 106]),
  (20, List.replicate 4 (.int 0)),
  (2, [.ref 108]),
  (20, List.replicate 4 (.int 0)),
  (2, [.ref 110]),
  (20, List.replicate 4 (.int 0)),
  (2, [.ref 112]),
  (20, List.replicate 40 (.int 0)),
  (2, [.ref 114]),
  (20, List.replicate 16 (.int 0)),
  (4, [.int 0, .ref 116, .ref 118, .ref 120, .ref 122, .ref 124, .ref 126]),
  (2, [.ref 117]),
  (20, List.replicate 4 (.int 0)),
  (2, [.ref 119]),
  (20, List.replicate 4 (.int 0)),
  (2, [.ref 121]),
  (20, List.replicate 4 (.int 0)),
  (2, [.ref 123]),
  (20, List.replicate 4 (.int 0)),
  (2, [.ref 125]),
  (20, List.replicate 40 (.int 0)),
  (2, [.ref 127]),
  (20, List.replicate 16 (.int 0)),
  (4, [.int 0, .ref 129, .ref 131, .ref 133, .ref 135, .ref 137, .ref 139]),
  (2, [.ref 130]),
  (20, List.replicate 4 (.int 0)),
  (2, [.ref 132]),
  (20, List.replicate 4 (.int 0)),
  (2, [.ref 134]),
  (20, List.replicate 4 (.int 0)),
  (2, [.ref 136]),
  (20, List.replicate 4 (.int 0)),
  (2, [.ref 138]),
  (20, List.replicate 40 (.int 0)),
  (2, [.ref 140]),
  (20, List.replicate 16 (.int 0)),
  (4, [.int 0, .ref 142, .ref 144, .ref 146, .ref 148, .ref 150, .ref 152]),
  (2, [.ref 143]),
  (20, List.replicate 4 (.int 0)),
  (2, [.ref 145]),
  (20, List.replicate 4 (.int 0)),
  (2, [.ref 147]),
  (20, List.replicate 4 (.int 0)),
  (2, [.ref 149]),
  (20, List.replicate 4 (.int 0)),
  (2, [.ref 151]),
  (20, List.replicate 40 (.int 0)),
  (2, [.ref 153]),
  (20, List.replicate 16 (.int 0)),
  (4, [.int 0, .ref 155, .ref 157, .ref 159, .ref 161, .ref 163, .ref 165]),
  (2, [.ref 156]),
  (20, List.replicate 4 (.int 0)),
  (2, [.ref 158]),
  (20, List.replicate 4 (.int 0)),
  (2, [.ref 160]),
  (20, List.replicate 4 (.int 0)),
  (2, [.ref 162]),
  (20, List.replicate 4 (.int 0)),
  (2, [.ref 164]),
  (20, List.replicate 40 (.int 0)),
  (2, [.ref 166]),
  (20, List.replicate 16 (.int 0)),
  (4, [.int 0, .ref 168, .ref 170, .ref 172, .ref 174, .ref 176, .ref 178]),
  (2, [.ref 169]),
  (20, List.replicate 4 (.int 0)),
  (2, [.ref 171]),
  (20, List.replicate 4 (.int 0)),
  (2, [.ref 173]),
  (20, List.replicate 4 (.int 0)),
  (2, [.ref 175]),
  (20, List.replicate 4 (.int 0)),
  (2, [.ref 177]),
  (20, List.replicate 40 (.int 0)),
  (2, [.ref 179]),
  (20, List.replicate 16 (.int 0)),
  (6, [.ref 181, .int 0]),
  (2, [.ref 182]),
  (20, List.replicate 8 (.int 0)),
  (7, [.ref 184, .int 0]),
  (2, [.ref 185]),
  (20, List.replicate 10 (.int 0)),
  (8, [.ref 187, .ref 188, .ref 191, .ref 193, .int 0, .int 0, .int 0]),
  (23, [.ref 195, .ref 198, .ref 201, .ref 204, .null, .null]),
  (6, [.ref 189, .int 0]),
  (2, [.ref 190]),
  (20, List.replicate 8 (.int 0)),
  (2, [.ref 192]),
  (20, List.replicate 6 (.int 0)),
  (2, [.ref 194]),
  (20, List.replicate 6 (.int 0)),
  (6, [.ref 196, .int 0]),
  (2, [.ref 197]),
  (20, List.replicate 8 (.int 0)),
  (6, [.ref 199, .int 0]),
  (2, [.ref 200]),
  (20, List.replicate 8 (.int 0)),
  (6, [.ref 202, .int 0]),
  (2, [.ref 203]),
  (20, List.replicate 8 (.int 0)),
  (6, [.ref 205, .int 0]),
  (2, [.ref 206]),
  (20, List.replicate 8 (.int 0)),
  (6, [.ref 208, .int 0]),
  (2, [.ref 209]),
  (20, List.replicate 8 (.int 0))]
set_option maxRecDepth 1000000 in
theorem zck44 : zpreF (zevF 8) zpC9 73 14 74 [some (.ref 186), some (.int 3)] [] zw43 = some ([some (.ref 186), some (.int 4)], [.ref 207, .int 4, .ref 187], zw44) := by decide +kernel
def zw45 : zW := [
  (0, [.ref 1, .ref 4, .ref 19, .ref 34, .ref 47, .ref 180, .ref 183, .null, .null]),
  (1, [.ref 2, .int 0, .int 0, .int 0, .int 0]),
  (2, [.ref 3]),
  (20, List.replicate 160 (.int 0)),
  (3, [.int 0, .int 0, .int 0, .int 9, .int 0, .ref 5, .ref 7, .ref 9, .ref 11, .ref 13, .ref 15, .ref 17]),
  (2, [.ref 6]),
  (20, List.replicate 10 (.int 0)),
  (2, [.ref 8]),
  (20, List.replicate 10 (.int 0)),
  (2, [.ref 10]),
  (20, List.replicate 4 (.int 0)),
  (2, [.ref 12]),
  (20, List.replicate 4 (.int 0)),
  (2, [.ref 14]),
  (20, List.replicate 6 (.int 0)),
  (2, [.ref 16]),
  (20, List.replicate 6 (.int 0)),
  (2, [.ref 18]),
  (20, List.replicate 6 (.int 0)),
  (3, [.int 0, .int 0, .int 0, .int 9, .int 0, .ref 20, .ref 22, .ref 24, .ref 26, .ref 28, .ref 30, .ref 32]),
  (2, [.ref 21]),
  (20, List.replicate 10 (.int 0)),
  (2, [.ref 23]),
  (20, List.replicate 10 (.int 0)),
  (2, [.ref 25]),
  (20, List.replicate 4 (.int 0)),
  (2, [.ref 27]),
  (20, List.replicate 4 (.int 0)),
  (2, [.ref 29]),
  (20, List.replicate 6 (.int 0)),
  (2, [.ref 31]),
  (20, List.replicate 6 (.int 0)),
  (2, [.ref 33]),
  (20, List.replicate 6 (.int 0)),
  (4, [.int 0, .ref 35, .ref 37, .ref 39, .ref 41, .ref 43, .ref 45]),
  (2, [.ref 36]),
  (20, List.replicate 4 (.int 0)),
  (2, [.ref 38]),
  (20, List.replicate 4 (.int 0)),
  (2, [.ref 40]),
  (20, List.replicate 4 (.int 0)),
  (2, [.ref 42]),
  (20, List.replicate 4 (.int 0)),
  (2, [.ref 44]),
  (20, List.replicate 40 (.int 0)),
  (2, [.ref 46]),
  (20, List.replicate 16 (.int 0)),
  (5, [.ref 48, .ref 49, .int 0, .int 0, .int 0]),
  (22, [.ref 50, .ref 63, .ref 76, .ref 89, .ref 102, .ref 115, .ref 128, .ref 141]),
  (22, [.ref 154, .ref 167]),
  (4, [.int 0, .ref 51, .ref 53, .ref 55, .ref 57, .ref 59, .ref 61]),
  (2, [.ref 52]),
  (20, List.replicate 4 (.int 0)),
  (2, [.ref 54]),
  (20, List.replicate 4 (.int 0)),
  (2, [.ref 56]),
  (20, List.replicate 4 (.int 0)),
  (2, [.ref 58]),
  (20, List.replicate 4 (.int 0)),
  (2, [.ref 60]),
  (20, List.replicate 40 (.int 0)),
  (2, [.ref 62]),
  (20, List.replicate 16 (.int 0)),
  (4, [.int 0, .ref 64, .ref 66, .ref 68, .ref 70, .ref 72, .ref 74]),
  (2, [.ref 65]),
  (20, List.replicate 4 (.int 0)),
  (2, [.ref 67]),
  (20, List.replicate 4 (.int 0)),
  (2, [.ref 69]),
  (20, List.replicate 4 (.int 0)),
  (2, [.ref 71]),
  (20, List.replicate 4 (.int 0)),
  (2, [.ref 73]),
  (20, List.replicate 40 (.int 0)),
  (2, [.ref 75]),
  (20, List.replicate 16 (.int 0)),
  (4, [.int 0, .ref 77, .ref 79, .ref 81, .ref 83, .ref 85, .ref 87]),
  (2, [.ref 78]),
  (20, List.replicate 4 (.int 0)),
  (2, [.ref 80]),
  (20, List.replicate 4 (.int 0)),
  (2, [.ref 82]),
  (20, List.replicate 4 (.int 0)),
  (2, [.ref 84]),
  (20, List.replicate 4 (.int 0)),
  (2, [.ref 86]),
  (20, List.replicate 40 (.int 0)),
  (2, [.ref 88]),
  (20, List.replicate 16 (.int 0)),
  (4, [.int 0, .ref 90, .ref 92, .ref 94, .ref 96, .ref 98, .ref 100]),
  (2, [.ref 91]),
  (20, List.replicate 4 (.int 0)),
  (2, [.ref 93]),
  (20, List.replicate 4 (.int 0)),
  (2, [.ref 95]),
  (20, List.replicate 4 (.int 0)),
  (2, [.ref 97]),
  (20, List.replicate 4 (.int 0)),
  (2, [.ref 99]),
  (20, List.replicate 40 (.int 0)),
  (2, [.ref 101]),
  (20, List.replicate 16 (.int 0)),
  (4, [.int 0, .ref 103, .ref 105, .ref 107, .ref 109, .ref 111, .ref 113]),
  (2, [.ref 104]),
  (20, List.replicate 4 (.int 0)),
  (2, [.ref 106]),
  (20, List.replicate 4 (.int 0)),
  (2, [.ref 108]),
  (20, List.replicate 4 (.int 0)),
  (2, [.ref 110]),
  (20, List.replicate 4 (.int 0)),
  (2, [.ref 112]),
  (20, List.replicate 40 (.int 0)),
  (2, [.ref 114]),
  (20, List.replicate 16 (.int 0)),
  (4, [.int 0, .ref 116, .ref 118, .ref 120, .ref 122, .ref 124, .ref 126]),
  (2, [.ref 117]),
  (20, List.replicate 4 (.int 0)),
  (2, [.ref 119]),
  (20, List.replicate 4 (.int 0)),
  (2, [.ref 121]),
  (20, List.replicate 4 (.int 0)),
  (2, [.ref 123]),
  (20, List.replicate 4 (.int 0)),
  (2, [.ref 125]),
  (20, List.replicate 40 (.int 0)),
  (2, [.ref 127]),
  (20, List.replicate 16 (.int 0)),
  (4, [.int 0, .ref 129, .ref 131, .ref 133, .ref 135, .ref 137, .ref 139]),
  (2, [.ref 130]),
  (20, List.replicate 4 (.int 0)),
  (2, [.ref 132]),
  (20, List.replicate 4 (.int 0)),
  (2, [.ref 134]),
  (20, List.replicate 4 (.int 0)),
  (2, [.ref 136]),
  (20, List.replicate 4 (.int 0)),
  (2, [.ref 138]),
  (20, List.replicate 40 (.int 0)),
  (2, [.ref 140]),
  (20, List.replicate 16 (.int 0)),
  (4, [.int 0, .ref 142, .ref 144, .ref 146, .ref 148, .ref 150, .ref 152]),
  (2, [.ref 143]),
  (20, List.replicate 4 (.int 0)),
  (2, [.ref 145]),
  (20, List.replicate 4 (.int 0)),
  (2, [.ref 147]),
  (20, List.replicate 4 (.int 0)),
  (2, [.ref 149]),
  (20, List.replicate 4 (.int 0)),
  (2, [.ref 151]),
  (20, List.replicate 40 (.int 0)),
  (2, [.ref 153]),
  (20, List.replicate 16 (.int 0)),
  (4, [.int 0, .ref 155, .ref 157, .ref 159, .ref 161, .ref 163, .ref 165]),
  (2, [.ref 156]),
  (20, List.replicate 4 (.int 0)),
  (2, [.ref 158]),
  (20, List.replicate 4 (.int 0)),
  (2, [.ref 160]),
  (20, List.replicate 4 (.int 0)),
  (2, [.ref 162]),
  (20, List.replicate 4 (.int 0)),
  (2, [.ref 164]),
  (20, List.replicate 40 (.int 0)),
  (2, [.ref 166]),
  (20, List.replicate 16 (.int 0)),
  (4, [.int 0, .ref 168, .ref 170, .ref 172, .ref 174, .ref 176, .ref 178]),
  (2, [.ref 169]),
  (20, List.replicate 4 (.int 0)),
  (2, [.ref 171]),
  (20, List.replicate 4 (.int 0)),
  (2, [.ref 173]),
  (20, List.replicate 4 (.int 0)),
  (2, [.ref 175]),
  (20, List.replicate 4 (.int 0)),
  (2, [.ref 177]),
  (20, List.replicate 40 (.int 0)),
  (2, [.ref 179]),
  (20, List.replicate 16 (.int 0)),
  (6, [.ref 181, .int 0]),
  (2, [.ref 182]),
  (20, List.replicate 8 (.int 0)),
  (7, [.ref 184, .int 0]),
  (2, [.ref 185]),
  (20, List.replicate 10 (.int 0)),
  (8, [.ref 187, .ref 188, .ref 191, .ref 193, .int 0, .int 0, .int 0]),
  (23, [.ref 195, .ref 198, .ref 201, .ref 204, .ref 207, .null]),
  (6, [.ref 189, .int 0]),
  (2, [.ref 190]),
  (20, List.replicate 8 (.int 0)),
  (2, [.ref 192]),
  (20, List.replicate 6 (.int 0)),
  (2, [.ref 194]),
  (20, List.replicate 6 (.int 0)),
  (6, [.ref 196, .int 0]),
  (2, [.ref 197]),
  (20, List.replicate 8 (.int 0)),
  (6, [.ref 199, .int 0]),
  (2, [.ref 200]),
  (20, List.replicate 8 (.int 0)),
  (6, [.ref 202, .int 0]),
  (2, [.ref 203]),
  (20, List.replicate 8 (.int 0)),
  (6, [.ref 205, .int 0]),
  (2, [.ref 206]),
  (20, List.replicate 8 (.int 0)),
  (6, [.ref 208, .int 0]),
  (2, [.ref 209]),
  (20, List.replicate 8 (.int 0))]
set_option maxRecDepth 1000000 in
theorem zck45 : zpreF (zevF 8) zpC9 74 2 73 [some (.ref 186), some (.int 4)] [.ref 207, .int 4, .ref 187] zw44 = some ([some (.ref 186), some (.int 4)], [], zw45) := by decide +kernel
def zw46 : zW := [
  (0, [.ref 1, .ref 4, .ref 19, .ref 34, .ref 47, .ref 180, .ref 183, .null, .null]),
  (1, [.ref 2, .int 0, .int 0, .int 0, .int 0]),
  (2, [.ref 3]),
  (20, List.replicate 160 (.int 0)),
  (3, [.int 0, .int 0, .int 0, .int 9, .int 0, .ref 5, .ref 7, .ref 9, .ref 11, .ref 13, .ref 15, .ref 17]),
  (2, [.ref 6]),
  (20, List.replicate 10 (.int 0)),
  (2, [.ref 8]),
  (20, List.replicate 10 (.int 0)),
  (2, [.ref 10]),
  (20, List.replicate 4 (.int 0)),
  (2, [.ref 12]),
  (20, List.replicate 4 (.int 0)),
  (2, [.ref 14]),
  (20, List.replicate 6 (.int 0)),
  (2, [.ref 16]),
  (20, List.replicate 6 (.int 0)),
  (2, [.ref 18]),
  (20, List.replicate 6 (.int 0)),
  (3, [.int 0, .int 0, .int 0, .int 9, .int 0, .ref 20, .ref 22, .ref 24, .ref 26, .ref 28, .ref 30, .ref 32]),
  (2, [.ref 21]),
  (20, List.replicate 10 (.int 0)),
  (2, [.ref 23]),
  (20, List.replicate 10 (.int 0)),
  (2, [.ref 25]),
  (20, List.replicate 4 (.int 0)),
  (2, [.ref 27]),
  (20, List.replicate 4 (.int 0)),
  (2, [.ref 29]),
  (20, List.replicate 6 (.int 0)),
  (2, [.ref 31]),
  (20, List.replicate 6 (.int 0)),
  (2, [.ref 33]),
  (20, List.replicate 6 (.int 0)),
  (4, [.int 0, .ref 35, .ref 37, .ref 39, .ref 41, .ref 43, .ref 45]),
  (2, [.ref 36]),
  (20, List.replicate 4 (.int 0)),
  (2, [.ref 38]),
  (20, List.replicate 4 (.int 0)),
  (2, [.ref 40]),
  (20, List.replicate 4 (.int 0)),
  (2, [.ref 42]),
  (20, List.replicate 4 (.int 0)),
  (2, [.ref 44]),
  (20, List.replicate 40 (.int 0)),
  (2, [.ref 46]),
  (20, List.replicate 16 (.int 0)),
  (5, [.ref 48, .ref 49, .int 0, .int 0, .int 0]),
  (22, [.ref 50, .ref 63, .ref 76, .ref 89, .ref 102, .ref 115, .ref 128, .ref 141]),
  (22, [.ref 154, .ref 167]),
  (4, [.int 0, .ref 51, .ref 53, .ref 55, .ref 57, .ref 59, .ref 61]),
  (2, [.ref 52]),
  (20, List.replicate 4 (.int 0)),
  (2, [.ref 54]),
  (20, List.replicate 4 (.int 0)),
  (2, [.ref 56]),
  (20, List.replicate 4 (.int 0)),
  (2, [.ref 58]),
  (20, List.replicate 4 (.int 0)),
  (2, [.ref 60]),
  (20, List.replicate 40 (.int 0)),
  (2, [.ref 62]),
  (20, List.replicate 16 (.int 0)),
  (4, [.int 0, .ref 64, .ref 66, .ref 68, .ref 70, .ref 72, .ref 74]),
  (2, [.ref 65]),
  (20, List.replicate 4 (.int 0)),
  (2, [.ref 67]),
  (20, List.replicate 4 (.int 0)),
  (2, [.ref 69]),
  (20, List.replicate 4 (.int 0)),
  (2, [.ref 71]),
  (20, List.replicate 4 (.int 0)),
  (2, [.ref 73]),
  (20, List.replicate 40 (.int 0)),
  (2, [.ref 75]),
  (20, List.replicate 16 (.int 0)),
  (4, [.int 0, .ref 77, .ref 79, .ref 81, .ref 83, .ref 85, .ref 87]),
  (2, [.ref 78]),
  (20, List.replicate 4 (.int 0)),
  (2, [.ref 80]),
  (20, List.replicate 4 (.int 0)),
  (2, [.ref 82]),
  (20, List.replicate 4 (.int 0)),
  (2, [.ref 84]),
  (20, List.replicate 4 (.int 0)),
  (2, [.ref 86]),
  (20, List.replicate 40 (.int 0)),
  (2, [.ref 88]),
  (20, List.replicate 16 (.int 0)),
  (4, [.int 0, .ref 90, .ref 92, .ref 94, .ref 96, .ref 98, .ref 100]),
  (2, [.ref 91]),
  (20, List.replicate 4 (.int 0)),
  (2, [.ref 93]),
  (20, List.replicate 4 (.int 0)),
  (2, [.ref 95]),
  (20, List.replicate 4 (.int 0)),
  (2, [.ref 97]),
  (20, List.replicate 4 (.int 0)),
  (2, [.ref 99]),
  (20, List.replicate 40 (.int 0)),
  (2, [.ref 101]),
  (20, List.replicate 16 (.int 0)),
  (4, [.int 0, .ref 103, .ref 105, .ref 107, .ref 109, .ref 111, .ref 113]),
  (2, [.ref 104]),
  (20, List.replicate 4 (.int 0)),
  (2, [.ref 106]),
  (20, List.replicate 4 (.int 0)),
  (2, [.ref 108]),
  (20, List.replicate 4 (.int 0)),
  (2, [.ref 110]),
  (20, List.replicate 4 (.int 0)),
  (2, [.ref 112]),
  (20, List.replicate 40 (.int 0)),
  (2, [.ref 114]),
  (20, List.replicate 16 (.int 0)),
  (4, [.int 0, .ref 116, .ref 118, .ref 120, .ref 122, .ref 124, .ref 126]),
  (2, [.ref 117]),
  (20, List.replicate 4 (.int 0)),
  (2, [.ref 119]),
  (20, List.replicate 4 (.int 0)),
  (2, [.ref 121]),
  (20, List.replicate 4 (.int 0)),
  (2, [.ref 123]),
  (20, List.replicate 4 (.int 0)),
  (2, [.ref 125]),
  (20, List.replicate 40 (.int 0)),
  (2, [.ref 127]),
  (20, List.replicate 16 (.int 0)),
  (4, [.int 0, .ref 129, .ref 131, .ref 133, .ref 135, .ref 137, .ref 139]),
  (2, [.ref 130]),
  (20, List.replicate 4 (.int 0)),
  (2, [.ref 132]),
  (20, List.replicate 4 (.int 0)),
  (2, [.ref 134]),
  (20, List.replicate 4 (.int 0)),
  (2, [.ref 136]),
  (20, List.replicate 4 (.int 0)),
  (2, [.ref 138]),
  (20, List.replicate 40 (.int 0)),
  (2, [.ref 140]),
  (20, List.replicate 16 (.int 0)),
  (4, [.int 0, .ref 142, .ref 144, .ref 146, .ref 148, .ref 150, .ref 152]),
  (2, [.ref 143]),
  (20, List.replicate 4 (.int 0)),
  (2, [.ref 145]),
  (20, List.replicate 4 (.int 0)),
  (2, [.ref 147]),
  (20, List.replicate 4 (.int 0)),
  (2, [.ref 149]),
  (20, List.replicate 4 (.int 0)),
  (2, [.ref 151]),
  (20, List.replicate 40 (.int 0)),
  (2, [.ref 153]),
  (20, List.replicate 16 (.int 0)),
  (4, [.int 0, .ref 155, .ref 157, .ref 159, .ref 161, .ref 163, .ref 165]),
  (2, [.ref 156]),
  (20, List.replicate 4 (.int 0)),
  (2, [.ref 158]),
  (20, List.replicate 4 (.int 0)),
  (2, [.ref 160]),
  (20, List.replicate 4 (.int 0)),
  (2, [.ref 162]),
  (20, List.replicate 4 (.int 0)),
  (2, [.ref 164]),
  (20, List.replicate 40 (.int 0)),
  (2, [.ref 166]),
  (20, List.replicate 16 (.int 0)),
  (4, [.int 0, .ref 168, .ref 170, .ref 172, .ref 174, .ref 176, .ref 178]),
  (2, [.ref 169]),
  (20, List.replicate 4 (.int 0)),
  (2, [.ref 171]),
  (20, List.replicate 4 (.int 0)),
  (2, [.ref 173]),
  (20, List.replicate 4 (.int 0)),
  (2, [.ref 175]),
  (20, List.replicate 4 (.int 0)),
  (2, [.ref 177]),
  (20, List.replicate 40 (.int 0)),
  (2, [.ref 179]),
  (20, List.replicate 16 (.int 0)),
  (6, [.ref 181, .int 0]),
  (2, [.ref 182]),
  (20, List.replicate 8 (.int 0)),
  (7, [.ref 184, .int 0]),
  (2, [.ref 185]),
  (20, List.replicate 10 (.int 0)),
  (8, [.ref 187, .ref 188, .ref 191, .ref 193, .int 0, .int 0, .int 0]),
  (23, [.ref 195, .ref 198, .ref 201, .ref 204, .ref 207, .null]),
  (6, [.ref 189, .int 0]),
  (2, [.ref 190]),
  (20, List.replicate 8 (.int 0)),
  (2, [.ref 192]),
  (20, List.replicate 6 (.int 0)),
  (2, [.ref 194]),
  (20, List.replicate 6 (.int 0)),
  (6, [.ref 196, .int 0]),
  (2, [.ref 197]),
  (20, List.replicate 8 (.int 0)),
  (6, [.ref 199, .int 0]),
  (2, [.ref 200]),
  (20, List.replicate 8 (.int 0)),
  (6, [.ref 202, .int 0]),
  (2, [.ref 203]),
  (20, List.replicate 8 (.int 0)),
  (6, [.ref 205, .int 0]),
  (2, [.ref 206]),
  (20, List.replicate 8 (.int 0)),
  (6, [.ref 208, .int 0]),
  (2, [.ref 209]),
  (20, List.replicate 8 (.int 0)),
  (6, [.ref 211, .int 0]),
  (2, [.ref 212]),
  (20, List.replicate 8 (.int 0))]
set_option maxRecDepth 1000000 in
theorem zck46 : zpreF (zevF 8) zpC9 73 14 74 [some (.ref 186), some (.int 4)] [] zw45 = some ([some (.ref 186), some (.int 5)], [.ref 210, .int 5, .ref 187], zw46) := by decide +kernel
def zw47 : zW := [
  (0, [.ref 1, .ref 4, .ref 19, .ref 34, .ref 47, .ref 180, .ref 183, .null, .null]),
  (1, [.ref 2, .int 0, .int 0, .int 0, .int 0]),
  (2, [.ref 3]),
  (20, List.replicate 160 (.int 0)),
  (3, [.int 0, .int 0, .int 0, .int 9, .int 0, .ref 5, .ref 7, .ref 9, .ref 11, .ref 13, .ref 15, .ref 17]),
  (2, [.ref 6]),
  (20, List.replicate 10 (.int 0)),
  (2, [.ref 8]),
  (20, List.replicate 10 (.int 0)),
  (2, [.ref 10]),
  (20, List.replicate 4 (.int 0)),
  (2, [.ref 12]),
  (20, List.replicate 4 (.int 0)),
  (2, [.ref 14]),
  (20, List.replicate 6 (.int 0)),
  (2, [.ref 16]),
  (20, List.replicate 6 (.int 0)),
  (2, [.ref 18]),
  (20, List.replicate 6 (.int 0)),
  (3, [.int 0, .int 0, .int 0, .int 9, .int 0, .ref 20, .ref 22, .ref 24, .ref 26, .ref 28, .ref 30, .ref 32]),
  (2, [.ref 21]),
  (20, List.replicate 10 (.int 0)),
  (2, [.ref 23]),
  (20, List.replicate 10 (.int 0)),
  (2, [.ref 25]),
  (20, List.replicate 4 (.int 0)),
  (2, [.ref 27]),
  (20, List.replicate 4 (.int 0)),
  (2, [.ref 29]),
  (20, List.replicate 6 (.int 0)),
  (2, [.ref 31]),
  (20, List.replicate 6 (.int 0)),
  (2, [.ref 33]),
  (20, List.replicate 6 (.int 0)),
  (4, [.int 0, .ref 35, .ref 37, .ref 39, .ref 41, .ref 43, .ref 45]),
  (2, [.ref 36]),
  (20, List.replicate 4 (.int 0)),
  (2, [.ref 38]),
  (20, List.replicate 4 (.int 0)),
  (2, [.ref 40]),
  (20, List.replicate 4 (.int 0)),
  (2, [.ref 42]),
  (20, List.replicate 4 (.int 0)),
  (2, [.ref 44]),
  (20, List.replicate 40 (.int 0)),
  (2, [.ref 46]),
  (20, List.replicate 16 (.int 0)),
  (5, [.ref 48, .ref 49, .int 0, .int 0, .int 0]),
  (22, [.ref 50, .ref 63, .ref 76, .ref 89, .ref 102, .ref 115, .ref 128, .ref 141]),
  (22, [.ref 154, .ref 167]),
  (4, [.int 0, .ref 51, .ref 53, .ref 55, .ref 57, .ref 59, .ref 61]),
  (2, [.ref 52]),
  (20, List.replicate 4 (.int 0)),
  (2, [.ref 54]),
  (20, List.replicate 4 (.int 0)),
  (2, [.ref 56]),
  (20, List.replicate 4 (.int 0)),
  (2, [.ref 58]),
  (20, List.replicate 4 (.int 0)),
  (2, [.ref 60]),
  (20, List.replicate 40 (.int 0)),
  (2, [.ref 62]),
  (20, List.replicate 16 (.int 0)),
  (4, [.int 0, .ref 64, .ref 66, .ref 68, .ref 70, .ref 72, .ref 74]),
  (2, [.ref 65]),
  (20, List.replicate 4 (.int 0)),
  (2, [.ref 67]),
  (20, List.replicate 4 (.int 0)),
  (2, [.ref 69]),
  (20, List.replicate 4 (.int 0)),
  (2, [.ref 71]),
  (20, List.replicate 4 (.int 0)),
  (2, [.ref 73]),
  (20, List.replicate 40 (.int 0)),
  (2, [.ref 75]),
  (20, List.replicate 16 (.int 0)),
  (4, [.int 0, .ref 77, .ref 79, .ref 81, .ref 83, .ref 85, .ref 87]),
  (2, [.ref 78]),
  (20, List.replicate 4 (.int 0)),
  (2, [.ref 80]),
  (20, List.replicate 4 (.int 0)),
  (2, [.ref 82]),
  (20, List.replicate 4 (.int 0)),
  (2, [.ref 84]),
  (20, List.replicate 4 (.int 0)),
  (2, [.ref 86]),
  (20, List.replicate 40 (.int 0)),
  (2, [.ref 88]),
  (20, List.replicate 16 (.int 0)),
  (4, [.int 0, .ref 90, .ref 92, .ref 94, .ref 96, .ref 98, .ref 100]),
  (2, [.ref 91]),
  (20, List.replicate 4 (.int 0)),
  (2, [.ref 93]),
  (20, List.replicate 4 (.int 0)),
  (2, [.ref 95]),
  (20, List.replicate 4 (.int 0)),
  (2, [.ref 97]),
  (20, List.replicate 4 (.int 0)),
  (2, [.ref 99]),
  (20, List.replicate 40 (.int 0)),
  (2, [.ref 101]),
  (20, List.replicate 16 (.int 0)),
  (4, [.int 0, .ref 103, .ref 105, .ref 107, .ref 109, .ref 111, .ref 113]),
  (2, [.ref 104]),
  (20, List.replicate 4 (.int 0)),
  (2, [.ref 106]),
  (20, List.replicate 4 (.int 0)),
  (2, [.ref 108]),
  (20, List.replicate 4 (.int 0)),
  (2, [.ref 110]),
  (20, List.replicate 4 (.int 0)),
  (2, [.ref 112]),
  (20, List.replicate 40 (.int 0)),
  (2, [.ref 114]),
  (20, List.replicate 16 (.int 0)),
  (4, [.int 0, .ref 116, .ref 118, .ref 120, .ref 122, .ref 124, .ref 126]),
  (2, [.ref 117]),
  (20, List.replicate 4 (.int 0)),
  (2, [.ref 119]),
  (20, List.replicate 4 (.int 0)),
  (2, [.ref 121]),
  (20, List.replicate 4 (.int 0)),
  (2, [.ref 123]),
  (20, List.replicate 4 (.int 0)),
  (2, [.ref 125]),
  (20, List.replicate 40 (.int 0)),
  (2, [.ref 127]),
  (20, List.replicate 16 (.int 0)),
  (4, [.int 0, .ref 129, .ref 131, .ref 133, .ref 135, .ref 137, .ref 139]),
  (2, [.ref 130]),
  (20, List.replicate 4 (.int 0)),
  (2, [.ref 132]),
  (20, List.replicate 4 (.int 0)),
  (2, [.ref 134]),
  (20, List.replicate 4 (.int 0)),
  (2, [.ref 136]),
  (20, List.replicate 4 (.int 0)),
  (2, [.ref 138]),
  (20, List.replicate 40 (.int 0)),
  (2, [.ref 140]),
  (20, List.replicate 16 (.int 0)),
  (4, [.int 0, .ref 142, .ref 144, .ref 146, .ref 148, .ref 150, .ref 152]),
  (2, [.ref 143]),
  (20, List.replicate 4 (.int 0)),
  (2, [.ref 145]),
  (20, List.replicate 4 (.int 0)),
  (2, [.ref 147]),
  (20, List.replicate 4 (.int 0)),
  (2, [.ref 149]),
  (20, List.replicate 4 (.int 0)),
  (2, [.ref 151]),
  (20, List.replicate 40 (.int 0)),
  (2, [.ref 153]),
  (20, List.replicate 16 (.int 0)),
  (4, [.int 0, .ref 155, .ref 157, .ref 159, .ref 161, .ref 163, .ref 165]),
  (2, [.ref 156]),
  (20, List.replicate 4 (.int 0)),
  (2, [.ref 158]),
  (20, List.replicate 4 (.int 0)),
  (2, [.ref 160]),
  (20, List.replicate 4 (.int 0)),
  (2, [.ref 162]),
  (20, List.replicate 4 (.int 0)),
  (2, [.ref 164]),
  (20, List.replicate 40 (.int 0)),
  (2, [.ref 166]),
  (20, List.replicate 16 (.int 0)),
  (4, [.int 0, .ref 168, .ref 170, .ref 172, .ref 174, .ref 176, .ref 178]),
  (2, [.ref 169]),
  (20, List.replicate 4 (.int 0)),
  (2, [.ref 171]),
  (20, List.replicate 4 (.int 0)),
  (2, [.ref 173]),
  (20, List.replicate 4 (.int 0)),
  (2, [.ref 175]),
  (20, List.replicate 4 (.int 0)),
  (2, [.ref 177]),
  (20, List.replicate 40 (.int 0)),
  (2, [.ref 179]),
  (20, List.replicate 16 (.int 0)),
  (6, [.ref 181, .int 0]),
  (2, [.ref 182]),
  (20, List.replicate 8 (.int 0)),
  (7, [.ref 184, .int 0]),
  (2, [.ref 185]),
  (20, List.replicate 10 (.int 0)),
  (8, [.ref 187, .ref 188, .ref 191, .ref 193, .int 0, .int 0, .int 0]),
  (23, [.ref 195, .ref 198, .ref 201, .ref 204, .ref 207, .ref 210]),
  (6, [.ref 189, .int 0]),
  (2, [.ref 190]),
  (20, List.replicate 8 (.int 0)),
  (2, [.ref 192]),
  (20, List.replicate 6 (.int 0)),
  (2, [.ref 194]),
  (20, List.replicate 6 (.int 0)),
  (6, [.ref 196, .int 0]),
  (2, [.ref 197]),
  (20, List.replicate 8 (.int 0)),
  (6, [.ref 199, .int 0]),
  (2, [.ref 200]),
  (20, List.replicate 8 (.int 0)),
  (6, [.ref 202, .int 0]),
  (2, [.ref 203]),
  (20, List.replicate 8 (.int 0)),
  (6, [.ref 205, .int 0]),
  (2, [.ref 206]),
  (20, List.replicate 8 (.int 0)),
  (6, [.ref 208, .int 0]),
  (2, [.ref 209]),
  (20, List.replicate 8 (.int 0)),
  (6, [.ref 211, .int 0]),
  (2, [.ref 212]),
  (20, List.replicate 8 (.int 0))]
set_option maxRecDepth 1000000 in
theorem zck47 : zpreF (zevF 8) zpC9 74 2 73 [some (.ref 186), some (.int 5)] [.ref 210, .int 5, .ref 187] zw46 = some ([some (.ref 186), some (.int 5)], [], zw47) := by decide +kernel
set_option maxRecDepth 1000000 in
theorem zck48 : zrunF (zevF 8) zpC9 9 74 [some (.ref 186), some (.int 5)] [] zw47 = some (none, zw47) := by decide +kernel
theorem zct9 {L : Nat} {xs : Nat → Int32} : zEv L xs 9 9 [.ref 186] zw29 none zw47 := by
  refine zgw_ev zpC9_get (by decide) (by decide) (show zini 2 [.ref 186] = [some (.ref 186), none] from rfl) ?_
  refine zgw_pre (fun j As w v w2 h => zevF_ok _ j As w v w2 h) zck30 ?_
  refine zgw_pre (fun j As w v w2 h => zevF_ok _ j As w v w2 h) zck31 ?_
  refine zgw_pre (fun j As w v w2 h => zevF_ok _ j As w v w2 h) zck32 ?_
  refine zgw_pre (fun j As w v w2 h => zevF_ok _ j As w v w2 h) zck33 ?_
  refine zgw_pre (fun j As w v w2 h => zevF_ok _ j As w v w2 h) zck34 ?_
  refine zgw_pre (fun j As w v w2 h => zevF_ok _ j As w v w2 h) zck35 ?_
  refine zgw_pre (fun j As w v w2 h => zevF_ok _ j As w v w2 h) zck36 ?_
  refine zgw_pre (fun j As w v w2 h => zevF_ok _ j As w v w2 h) zck37 ?_
  refine zgw_pre (fun j As w v w2 h => zevF_ok _ j As w v w2 h) zck38 ?_
  refine zgw_pre (fun j As w v w2 h => zevF_ok _ j As w v w2 h) zck39 ?_
  refine zgw_pre (fun j As w v w2 h => zevF_ok _ j As w v w2 h) zck40 ?_
  refine zgw_pre (fun j As w v w2 h => zevF_ok _ j As w v w2 h) zck41 ?_
  refine zgw_pre (fun j As w v w2 h => zevF_ok _ j As w v w2 h) zck42 ?_
  refine zgw_pre (fun j As w v w2 h => zevF_ok _ j As w v w2 h) zck43 ?_
  refine zgw_pre (fun j As w v w2 h => zevF_ok _ j As w v w2 h) zck44 ?_
  refine zgw_pre (fun j As w v w2 h => zevF_ok _ j As w v w2 h) zck45 ?_
  refine zgw_pre (fun j As w v w2 h => zevF_ok _ j As w v w2 h) zck46 ?_
  refine zgw_pre (fun j As w v w2 h => zevF_ok _ j As w v w2 h) zck47 ?_
  exact zgw_end (fun j As w v w2 h => zevF_ok _ j As w v w2 h) zck48
def zw48 : zW := [
  (0, [.ref 1, .ref 4, .ref 19, .ref 34, .ref 47, .ref 180, .ref 183, .ref 186, .ref 213]),
  (1, [.ref 2, .int 0, .int 0, .int 0, .int 0]),
  (2, [.ref 3]),
  (20, List.replicate 160 (.int 0)),
  (3, [.int 0, .int 0, .int 0, .int 9, .int 0, .ref 5, .ref 7, .ref 9, .ref 11, .ref 13, .ref 15, .ref 17]),
  (2, [.ref 6]),
  (20, List.replicate 10 (.int 0)),
  (2, [.ref 8]),
  (20, List.replicate 10 (.int 0)),
  (2, [.ref 10]),
  (20, List.replicate 4 (.int 0)),
  (2, [.ref 12]),
  (20, List.replicate 4 (.int 0)),
  (2, [.ref 14]),
  (20, List.replicate 6 (.int 0)),
  (2, [.ref 16]),
  (20, List.replicate 6 (.int 0)),
  (2, [.ref 18]),
  (20, List.replicate 6 (.int 0)),
  (3, [.int 0, .int 0, .int 0, .int 9, .int 0, .ref 20, .ref 22, .ref 24, .ref 26, .ref 28, .ref 30, .ref 32]),
  (2, [.ref 21]),
  (20, List.replicate 10 (.int 0)),
  (2, [.ref 23]),
  (20, List.replicate 10 (.int 0)),
  (2, [.ref 25]),
  (20, List.replicate 4 (.int 0)),
  (2, [.ref 27]),
  (20, List.replicate 4 (.int 0)),
  (2, [.ref 29]),
  (20, List.replicate 6 (.int 0)),
  (2, [.ref 31]),
  (20, List.replicate 6 (.int 0)),
  (2, [.ref 33]),
  (20, List.replicate 6 (.int 0)),
  (4, [.int 0, .ref 35, .ref 37, .ref 39, .ref 41, .ref 43, .ref 45]),
  (2, [.ref 36]),
  (20, List.replicate 4 (.int 0)),
  (2, [.ref 38]),
  (20, List.replicate 4 (.int 0)),
  (2, [.ref 40]),
  (20, List.replicate 4 (.int 0)),
  (2, [.ref 42]),
  (20, List.replicate 4 (.int 0)),
  (2, [.ref 44]),
  (20, List.replicate 40 (.int 0)),
  (2, [.ref 46]),
  (20, List.replicate 16 (.int 0)),
  (5, [.ref 48, .ref 49, .int 0, .int 0, .int 0]),
  (22, [.ref 50, .ref 63, .ref 76, .ref 89, .ref 102, .ref 115, .ref 128, .ref 141]),
  (22, [.ref 154, .ref 167]),
  (4, [.int 0, .ref 51, .ref 53, .ref 55, .ref 57, .ref 59, .ref 61]),
  (2, [.ref 52]),
  (20, List.replicate 4 (.int 0)),
  (2, [.ref 54]),
  (20, List.replicate 4 (.int 0)),
  (2, [.ref 56]),
  (20, List.replicate 4 (.int 0)),
  (2, [.ref 58]),
  (20, List.replicate 4 (.int 0)),
  (2, [.ref 60]),
  (20, List.replicate 40 (.int 0)),
  (2, [.ref 62]),
  (20, List.replicate 16 (.int 0)),
  (4, [.int 0, .ref 64, .ref 66, .ref 68, .ref 70, .ref 72, .ref 74]),
  (2, [.ref 65]),
  (20, List.replicate 4 (.int 0)),
  (2, [.ref 67]),
  (20, List.replicate 4 (.int 0)),
  (2, [.ref 69]),
  (20, List.replicate 4 (.int 0)),
  (2, [.ref 71]),
  (20, List.replicate 4 (.int 0)),
  (2, [.ref 73]),
  (20, List.replicate 40 (.int 0)),
  (2, [.ref 75]),
  (20, List.replicate 16 (.int 0)),
  (4, [.int 0, .ref 77, .ref 79, .ref 81, .ref 83, .ref 85, .ref 87]),
  (2, [.ref 78]),
  (20, List.replicate 4 (.int 0)),
  (2, [.ref 80]),
  (20, List.replicate 4 (.int 0)),
  (2, [.ref 82]),
  (20, List.replicate 4 (.int 0)),
  (2, [.ref 84]),
  (20, List.replicate 4 (.int 0)),
  (2, [.ref 86]),
  (20, List.replicate 40 (.int 0)),
  (2, [.ref 88]),
  (20, List.replicate 16 (.int 0)),
  (4, [.int 0, .ref 90, .ref 92, .ref 94, .ref 96, .ref 98, .ref 100]),
  (2, [.ref 91]),
  (20, List.replicate 4 (.int 0)),
  (2, [.ref 93]),
  (20, List.replicate 4 (.int 0)),
  (2, [.ref 95]),
  (20, List.replicate 4 (.int 0)),
  (2, [.ref 97]),
  (20, List.replicate 4 (.int 0)),
  (2, [.ref 99]),
  (20, List.replicate 40 (.int 0)),
  (2, [.ref 101]),
  (20, List.replicate 16 (.int 0)),
  (4, [.int 0, .ref 103, .ref 105, .ref 107, .ref 109, .ref 111, .ref 113]),
  (2, [.ref 104]),
  (20, List.replicate 4 (.int 0)),
  (2, [.ref 106]),
  (20, List.replicate 4 (.int 0)),
  (2, [.ref 108]),
  (20, List.replicate 4 (.int 0)),
  (2, [.ref 110]),
  (20, List.replicate 4 (.int 0)),
  (2, [.ref 112]),
  (20, List.replicate 40 (.int 0)),
  (2, [.ref 114]),
  (20, List.replicate 16 (.int 0)),
  (4, [.int 0, .ref 116, .ref 118, .ref 120, .ref 122, .ref 124, .ref 126]),
  (2, [.ref 117]),
  (20, List.replicate 4 (.int 0)),
  (2, [.ref 119]),
  (20, List.replicate 4 (.int 0)),
  (2, [.ref 121]),
  (20, List.replicate 4 (.int 0)),
  (2, [.ref 123]),
  (20, List.replicate 4 (.int 0)),
  (2, [.ref 125]),
  (20, List.replicate 40 (.int 0)),
  (2, [.ref 127]),
  (20, List.replicate 16 (.int 0)),
  (4, [.int 0, .ref 129, .ref 131, .ref 133, .ref 135, .ref 137, .ref 139]),
  (2, [.ref 130]),
  (20, List.replicate 4 (.int 0)),
  (2, [.ref 132]),
  (20, List.replicate 4 (.int 0)),
  (2, [.ref 134]),
  (20, List.replicate 4 (.int 0)),
  (2, [.ref 136]),
  (20, List.replicate 4 (.int 0)),
  (2, [.ref 138]),
  (20, List.replicate 40 (.int 0)),
  (2, [.ref 140]),
  (20, List.replicate 16 (.int 0)),
  (4, [.int 0, .ref 142, .ref 144, .ref 146, .ref 148, .ref 150, .ref 152]),
  (2, [.ref 143]),
  (20, List.replicate 4 (.int 0)),
  (2, [.ref 145]),
  (20, List.replicate 4 (.int 0)),
  (2, [.ref 147]),
  (20, List.replicate 4 (.int 0)),
  (2, [.ref 149]),
  (20, List.replicate 4 (.int 0)),
  (2, [.ref 151]),
  (20, List.replicate 40 (.int 0)),
  (2, [.ref 153]),
  (20, List.replicate 16 (.int 0)),
  (4, [.int 0, .ref 155, .ref 157, .ref 159, .ref 161, .ref 163, .ref 165]),
  (2, [.ref 156]),
  (20, List.replicate 4 (.int 0)),
  (2, [.ref 158]),
  (20, List.replicate 4 (.int 0)),
  (2, [.ref 160]),
  (20, List.replicate 4 (.int 0)),
  (2, [.ref 162]),
  (20, List.replicate 4 (.int 0)),
  (2, [.ref 164]),
  (20, List.replicate 40 (.int 0)),
  (2, [.ref 166]),
  (20, List.replicate 16 (.int 0)),
  (4, [.int 0, .ref 168, .ref 170, .ref 172, .ref 174, .ref 176, .ref 178]),
  (2, [.ref 169]),
  (20, List.replicate 4 (.int 0)),
  (2, [.ref 171]),
  (20, List.replicate 4 (.int 0)),
  (2, [.ref 173]),
  (20, List.replicate 4 (.int 0)),
  (2, [.ref 175]),
  (20, List.replicate 4 (.int 0)),
  (2, [.ref 177]),
  (20, List.replicate 40 (.int 0)),
  (2, [.ref 179]),
  (20, List.replicate 16 (.int 0)),
  (6, [.ref 181, .int 0]),
  (2, [.ref 182]),
  (20, List.replicate 8 (.int 0)),
  (7, [.ref 184, .int 0]),
  (2, [.ref 185]),
  (20, List.replicate 10 (.int 0)),
  (8, [.ref 187, .ref 188, .ref 191, .ref 193, .int 0, .int 0, .int 0]),
  (23, [.ref 195, .ref 198, .ref 201, .ref 204, .ref 207, .ref 210]),
  (6, [.ref 189, .int 0]),
  (2, [.ref 190]),
  (20, List.replicate 8 (.int 0)),
  (2, [.ref 192]),
  (20, List.replicate 6 (.int 0)),
  (2, [.ref 194]),
  (20, List.replicate 6 (.int 0)),
  (6, [.ref 196, .int 0]),
  (2, [.ref 197]),
  (20, List.replicate 8 (.int 0)),
  (6, [.ref 199, .int 0]),
  (2, [.ref 200]),
  (20, List.replicate 8 (.int 0)),
  (6, [.ref 202, .int 0]),
  (2, [.ref 203]),
  (20, List.replicate 8 (.int 0)),
  (6, [.ref 205, .int 0]),
  (2, [.ref 206]),
  (20, List.replicate 8 (.int 0)),
  (6, [.ref 208, .int 0]),
  (2, [.ref 209]),
  (20, List.replicate 8 (.int 0)),
  (6, [.ref 211, .int 0]),
  (2, [.ref 212]),
  (20, List.replicate 8 (.int 0)),
  (9, [.ref 214, .ref 217, .ref 220, .int 0, .int 0, .int 0, .int 0]),
  (6, [.ref 215, .int 0]),
  (2, [.ref 216]),
  (20, List.replicate 8 (.int 0)),
  (6, [.ref 218, .int 0]),
  (2, [.ref 219]),
  (20, List.replicate 8 (.int 0)),
  (2, [.ref 221]),
  (20, List.replicate 16 (.int 0))]
set_option maxRecDepth 1000000 in
theorem zck49 : zrunF (zevF 9) zpC0 8 89 [some (.ref 0)] [.ref 186, .ref 0] zw47 = some (none, zw48) := by decide +kernel
theorem zct0 {L : Nat} {xs : Nat → Int32} : zEv L xs 10 0 [.ref 0] zw1 none zw48 := by
  refine zgw_ev zpC0_get (by decide) (by decide) (show zini 1 [.ref 0] = [some (.ref 0)] from rfl) ?_
  refine zgw_pre (fun j As w v w2 h => zevF_ok _ j As w v w2 h) zck1 ?_
  refine zgw_pre (fun j As w v w2 h => zevF_ok _ j As w v w2 h) zck2 ?_
  refine zgw_pre (fun j As w v w2 h => zevF_ok _ j As w v w2 h) zck3 ?_
  refine zgw_pre (fun j As w v w2 h => zevF_ok _ j As w v w2 h) zck4 ?_
  refine zgw_pre (fun j As w v w2 h => zevF_ok _ j As w v w2 h) zck5 ?_
  refine zgw_pre (fun j As w v w2 h => zevF_ok _ j As w v w2 h) zck6 ?_
  refine zgw_pre (fun j As w v w2 h => zevF_ok _ j As w v w2 h) zck7 ?_
  refine zgw_new (j := 6) (o := 47) (N := zpC6) (ix := 35) zct6 rfl (by decide +kernel) (by decide +kernel) rfl rfl rfl (by decide) ?_
  refine zgw_pre (fun j As w v w2 h => zevF_ok _ j As w v w2 h) zck29 ?_
  refine zgw_new (j := 9) (o := 186) (N := zpC9) (ix := 56) zct9 rfl (by decide +kernel) (by decide +kernel) rfl rfl rfl (by decide) ?_
  exact zgw_end (fun j As w v w2 h => zevF_ok _ j As w v w2 h) zck49
def zw49 : zW := [
  (0, [.ref 1, .ref 4, .ref 19, .ref 34, .ref 47, .ref 180, .ref 183, .ref 186, .ref 213]),
  (1, [.ref 2, .int 0, .int 0, .int 0, .int 0]),
  (2, [.ref 3]),
  (20, List.replicate 160 (.int 0)),
  (3, [.int 0, .int 0, .int 0, .int 9, .int 0, .ref 5, .ref 7, .ref 9, .ref 11, .ref 13, .ref 15, .ref 17]),
  (2, [.ref 6]),
  (20, List.replicate 10 (.int 0)),
  (2, [.ref 8]),
  (20, List.replicate 10 (.int 0)),
  (2, [.ref 10]),
  (20, List.replicate 4 (.int 0)),
  (2, [.ref 12]),
  (20, List.replicate 4 (.int 0)),
  (2, [.ref 14]),
  (20, List.replicate 6 (.int 0)),
  (2, [.ref 16]),
  (20, List.replicate 6 (.int 0)),
  (2, [.ref 18]),
  (20, List.replicate 6 (.int 0)),
  (3, [.int 0, .int 0, .int 0, .int 9, .int 0, .ref 20, .ref 22, .ref 24, .ref 26, .ref 28, .ref 30, .ref 32]),
  (2, [.ref 21]),
  (20, List.replicate 10 (.int 0)),
  (2, [.ref 23]),
  (20, List.replicate 10 (.int 0)),
  (2, [.ref 25]),
  (20, List.replicate 4 (.int 0)),
  (2, [.ref 27]),
  (20, List.replicate 4 (.int 0)),
  (2, [.ref 29]),
  (20, List.replicate 6 (.int 0)),
  (2, [.ref 31]),
  (20, List.replicate 6 (.int 0)),
  (2, [.ref 33]),
  (20, List.replicate 6 (.int 0)),
  (4, [.int 0, .ref 35, .ref 37, .ref 39, .ref 41, .ref 43, .ref 45]),
  (2, [.ref 36]),
  (20, List.replicate 4 (.int 0)),
  (2, [.ref 38]),
  (20, List.replicate 4 (.int 0)),
  (2, [.ref 40]),
  (20, List.replicate 4 (.int 0)),
  (2, [.ref 42]),
  (20, List.replicate 4 (.int 0)),
  (2, [.ref 44]),
  (20, List.replicate 40 (.int 0)),
  (2, [.ref 46]),
  (20, List.replicate 16 (.int 0)),
  (5, [.ref 48, .ref 49, .int 0, .int 0, .int 0]),
  (22, [.ref 50, .ref 63, .ref 76, .ref 89, .ref 102, .ref 115, .ref 128, .ref 141]),
  (22, [.ref 154, .ref 167]),
  (4, [.int 0, .ref 51, .ref 53, .ref 55, .ref 57, .ref 59, .ref 61]),
  (2, [.ref 52]),
  (20, List.replicate 4 (.int 0)),
  (2, [.ref 54]),
  (20, List.replicate 4 (.int 0)),
  (2, [.ref 56]),
  (20, List.replicate 4 (.int 0)),
  (2, [.ref 58]),
  (20, List.replicate 4 (.int 0)),
  (2, [.ref 60]),
  (20, List.replicate 40 (.int 0)),
  (2, [.ref 62]),
  (20, List.replicate 16 (.int 0)),
  (4, [.int 0, .ref 64, .ref 66, .ref 68, .ref 70, .ref 72, .ref 74]),
  (2, [.ref 65]),
  (20, List.replicate 4 (.int 0)),
  (2, [.ref 67]),
  (20, List.replicate 4 (.int 0)),
  (2, [.ref 69]),
  (20, List.replicate 4 (.int 0)),
  (2, [.ref 71]),
  (20, List.replicate 4 (.int 0)),
  (2, [.ref 73]),
  (20, List.replicate 40 (.int 0)),
  (2, [.ref 75]),
  (20, List.replicate 16 (.int 0)),
  (4, [.int 0, .ref 77, .ref 79, .ref 81, .ref 83, .ref 85, .ref 87]),
  (2, [.ref 78]),
  (20, List.replicate 4 (.int 0)),
  (2, [.ref 80]),
  (20, List.replicate 4 (.int 0)),
  (2, [.ref 82]),
  (20, List.replicate 4 (.int 0)),
  (2, [.ref 84]),
  (20, List.replicate 4 (.int 0)),
  (2, [.ref 86]),
  (20, List.replicate 40 (.int 0)),
  (2, [.ref 88]),
  (20, List.replicate 16 (.int 0)),
  (4, [.int 0, .ref 90, .ref 92, .ref 94, .ref 96, .ref 98, .ref 100]),
  (2, [.ref 91]),
  (20, List.replicate 4 (.int 0)),
  (2, [.ref 93]),
  (20, List.replicate 4 (.int 0)),
  (2, [.ref 95]),
  (20, List.replicate 4 (.int 0)),
  (2, [.ref 97]),
  (20, List.replicate 4 (.int 0)),
  (2, [.ref 99]),
  (20, List.replicate 40 (.int 0)),
  (2, [.ref 101]),
  (20, List.replicate 16 (.int 0)),
  (4, [.int 0, .ref 103, .ref 105, .ref 107, .ref 109, .ref 111, .ref 113]),
  (2, [.ref 104]),
  (20, List.replicate 4 (.int 0)),
  (2, [.ref 106]),
  (20, List.replicate 4 (.int 0)),
  (2, [.ref 108]),
  (20, List.replicate 4 (.int 0)),
  (2, [.ref 110]),
  (20, List.replicate 4 (.int 0)),
  (2, [.ref 112]),
  (20, List.replicate 40 (.int 0)),
  (2, [.ref 114]),
  (20, List.replicate 16 (.int 0)),
  (4, [.int 0, .ref 116, .ref 118, .ref 120, .ref 122, .ref 124, .ref 126]),
  (2, [.ref 117]),
  (20, List.replicate 4 (.int 0)),
  (2, [.ref 119]),
  (20, List.replicate 4 (.int 0)),
  (2, [.ref 121]),
  (20, List.replicate 4 (.int 0)),
  (2, [.ref 123]),
  (20, List.replicate 4 (.int 0)),
  (2, [.ref 125]),
  (20, List.replicate 40 (.int 0)),
  (2, [.ref 127]),
  (20, List.replicate 16 (.int 0)),
  (4, [.int 0, .ref 129, .ref 131, .ref 133, .ref 135, .ref 137, .ref 139]),
  (2, [.ref 130]),
  (20, List.replicate 4 (.int 0)),
  (2, [.ref 132]),
  (20, List.replicate 4 (.int 0)),
  (2, [.ref 134]),
  (20, List.replicate 4 (.int 0)),
  (2, [.ref 136]),
  (20, List.replicate 4 (.int 0)),
  (2, [.ref 138]),
  (20, List.replicate 40 (.int 0)),
  (2, [.ref 140]),
  (20, List.replicate 16 (.int 0)),
  (4, [.int 0, .ref 142, .ref 144, .ref 146, .ref 148, .ref 150, .ref 152]),
  (2, [.ref 143]),
  (20, List.replicate 4 (.int 0)),
  (2, [.ref 145]),
  (20, List.replicate 4 (.int 0)),
  (2, [.ref 147]),
  (20, List.replicate 4 (.int 0)),
  (2, [.ref 149]),
  (20, List.replicate 4 (.int 0)),
  (2, [.ref 151]),
  (20, List.replicate 40 (.int 0)),
  (2, [.ref 153]),
  (20, List.replicate 16 (.int 0)),
  (4, [.int 0, .ref 155, .ref 157, .ref 159, .ref 161, .ref 163, .ref 165]),
  (2, [.ref 156]),
  (20, List.replicate 4 (.int 0)),
  (2, [.ref 158]),
  (20, List.replicate 4 (.int 0)),
  (2, [.ref 160]),
  (20, List.replicate 4 (.int 0)),
  (2, [.ref 162]),
  (20, List.replicate 4 (.int 0)),
  (2, [.ref 164]),
  (20, List.replicate 40 (.int 0)),
  (2, [.ref 166]),
  (20, List.replicate 16 (.int 0)),
  (4, [.int 0, .ref 168, .ref 170, .ref 172, .ref 174, .ref 176, .ref 178]),
  (2, [.ref 169]),
  (20, List.replicate 4 (.int 0)),
  (2, [.ref 171]),
  (20, List.replicate 4 (.int 0)),
  (2, [.ref 173]),
  (20, List.replicate 4 (.int 0)),
  (2, [.ref 175]),
  (20, List.replicate 4 (.int 0)),
  (2, [.ref 177]),
  (20, List.replicate 40 (.int 0)),
  (2, [.ref 179]),
  (20, List.replicate 16 (.int 0)),
  (6, [.ref 181, .int 0]),
  (2, [.ref 182]),
  (20, List.replicate 8 (.int 0)),
  (7, [.ref 184, .int 0]),
  (2, [.ref 185]),
  (20, List.replicate 10 (.int 0)),
  (8, [.ref 187, .ref 188, .ref 191, .ref 193, .int 0, .int 0, .int 0]),
  (23, [.ref 195, .ref 198, .ref 201, .ref 204, .ref 207, .ref 210]),
  (6, [.ref 189, .int 0]),
  (2, [.ref 190]),
  (20, List.replicate 8 (.int 0)),
  (2, [.ref 192]),
  (20, List.replicate 6 (.int 0)),
  (2, [.ref 194]),
  (20, List.replicate 6 (.int 0)),
  (6, [.ref 196, .int 0]),
  (2, [.ref 197]),
  (20, List.replicate 8 (.int 0)),
  (6, [.ref 199, .int 0]),
  (2, [.ref 200]),
  (20, List.replicate 8 (.int 0)),
  (6, [.ref 202, .int 0]),
  (2, [.ref 203]),
  (20, List.replicate 8 (.int 0)),
  (6, [.ref 205, .int 0]),
  (2, [.ref 206]),
  (20, List.replicate 8 (.int 0)),
  (6, [.ref 208, .int 0]),
  (2, [.ref 209]),
  (20, List.replicate 8 (.int 0)),
  (6, [.ref 211, .int 0]),
  (2, [.ref 212]),
  (20, List.replicate 8 (.int 0)),
  (9, [.ref 214, .ref 217, .ref 220, .int 0, .int 0, .int 0, .int 0]),
  (6, [.ref 215, .int 0]),
  (2, [.ref 216]),
  (20, List.replicate 8 (.int 0)),
  (6, [.ref 218, .int 0]),
  (2, [.ref 219]),
  (20, List.replicate 8 (.int 0)),
  (2, [.ref 221]),
  (20, List.replicate 16 (.int 0)),
  (10, [.null, .int 0, .null, .null, .int 0, .null, .int 0, .null, .null, .int 0, .null, .int 0, .null, .null, .int 0, .int 0, .int 0, .null, .int 0, .null, .null, .int 0, .int 0, .int 0, .int 0, .int 0, .int 0, .int 0, .null, .int 0, .null, .null, .int 0, .int 0, .null])]
set_option maxRecDepth 1000000 in
theorem zck50 : zpreF (zevF 10) zlawM 12 4 7 [some (.ref zSCR), none, none, none] [.ref 0] zw48 = some ([some (.ref zSCR), some (.ref 0), none, none], [.ref 222, .ref 222], zw49) := by decide +kernel
abbrev zpC144 : zPM := (⟨"AdjectiveCouponsModel", "<init>", "()V"⟩, prog_12_method_1_code, 1, (Option.none : Option Jvm.ClassFile.FieldType), 10)
set_option maxRecDepth 100000 in
theorem zpC144_get : zpms[144]? = some zpC144 := rfl
def zw50 : zW := [
  (0, [.ref 1, .ref 4, .ref 19, .ref 34, .ref 47, .ref 180, .ref 183, .ref 186, .ref 213]),
  (1, [.ref 2, .int 0, .int 0, .int 0, .int 0]),
  (2, [.ref 3]),
  (20, List.replicate 160 (.int 0)),
  (3, [.int 0, .int 0, .int 0, .int 9, .int 0, .ref 5, .ref 7, .ref 9, .ref 11, .ref 13, .ref 15, .ref 17]),
  (2, [.ref 6]),
  (20, List.replicate 10 (.int 0)),
  (2, [.ref 8]),
  (20, List.replicate 10 (.int 0)),
  (2, [.ref 10]),
  (20, List.replicate 4 (.int 0)),
  (2, [.ref 12]),
  (20, List.replicate 4 (.int 0)),
  (2, [.ref 14]),
  (20, List.replicate 6 (.int 0)),
  (2, [.ref 16]),
  (20, List.replicate 6 (.int 0)),
  (2, [.ref 18]),
  (20, List.replicate 6 (.int 0)),
  (3, [.int 0, .int 0, .int 0, .int 9, .int 0, .ref 20, .ref 22, .ref 24, .ref 26, .ref 28, .ref 30, .ref 32]),
  (2, [.ref 21]),
  (20, List.replicate 10 (.int 0)),
  (2, [.ref 23]),
  (20, List.replicate 10 (.int 0)),
  (2, [.ref 25]),
  (20, List.replicate 4 (.int 0)),
  (2, [.ref 27]),
  (20, List.replicate 4 (.int 0)),
  (2, [.ref 29]),
  (20, List.replicate 6 (.int 0)),
  (2, [.ref 31]),
  (20, List.replicate 6 (.int 0)),
  (2, [.ref 33]),
  (20, List.replicate 6 (.int 0)),
  (4, [.int 0, .ref 35, .ref 37, .ref 39, .ref 41, .ref 43, .ref 45]),
  (2, [.ref 36]),
  (20, List.replicate 4 (.int 0)),
  (2, [.ref 38]),
  (20, List.replicate 4 (.int 0)),
  (2, [.ref 40]),
  (20, List.replicate 4 (.int 0)),
  (2, [.ref 42]),
  (20, List.replicate 4 (.int 0)),
  (2, [.ref 44]),
  (20, List.replicate 40 (.int 0)),
  (2, [.ref 46]),
  (20, List.replicate 16 (.int 0)),
  (5, [.ref 48, .ref 49, .int 0, .int 0, .int 0]),
  (22, [.ref 50, .ref 63, .ref 76, .ref 89, .ref 102, .ref 115, .ref 128, .ref 141]),
  (22, [.ref 154, .ref 167]),
  (4, [.int 0, .ref 51, .ref 53, .ref 55, .ref 57, .ref 59, .ref 61]),
  (2, [.ref 52]),
  (20, List.replicate 4 (.int 0)),
  (2, [.ref 54]),
  (20, List.replicate 4 (.int 0)),
  (2, [.ref 56]),
  (20, List.replicate 4 (.int 0)),
  (2, [.ref 58]),
  (20, List.replicate 4 (.int 0)),
  (2, [.ref 60]),
  (20, List.replicate 40 (.int 0)),
  (2, [.ref 62]),
  (20, List.replicate 16 (.int 0)),
  (4, [.int 0, .ref 64, .ref 66, .ref 68, .ref 70, .ref 72, .ref 74]),
  (2, [.ref 65]),
  (20, List.replicate 4 (.int 0)),
  (2, [.ref 67]),
  (20, List.replicate 4 (.int 0)),
  (2, [.ref 69]),
  (20, List.replicate 4 (.int 0)),
  (2, [.ref 71]),
  (20, List.replicate 4 (.int 0)),
  (2, [.ref 73]),
  (20, List.replicate 40 (.int 0)),
  (2, [.ref 75]),
  (20, List.replicate 16 (.int 0)),
  (4, [.int 0, .ref 77, .ref 79, .ref 81, .ref 83, .ref 85, .ref 87]),
  (2, [.ref 78]),
  (20, List.replicate 4 (.int 0)),
  (2, [.ref 80]),
  (20, List.replicate 4 (.int 0)),
  (2, [.ref 82]),
  (20, List.replicate 4 (.int 0)),
  (2, [.ref 84]),
  (20, List.replicate 4 (.int 0)),
  (2, [.ref 86]),
  (20, List.replicate 40 (.int 0)),
  (2, [.ref 88]),
  (20, List.replicate 16 (.int 0)),
  (4, [.int 0, .ref 90, .ref 92, .ref 94, .ref 96, .ref 98, .ref 100]),
  (2, [.ref 91]),
  (20, List.replicate 4 (.int 0)),
  (2, [.ref 93]),
  (20, List.replicate 4 (.int 0)),
  (2, [.ref 95]),
  (20, List.replicate 4 (.int 0)),
  (2, [.ref 97]),
  (20, List.replicate 4 (.int 0)),
  (2, [.ref 99]),
  (20, List.replicate 40 (.int 0)),
  (2, [.ref 101]),
  (20, List.replicate 16 (.int 0)),
  (4, [.int 0, .ref 103, .ref 105, .ref 107, .ref 109, .ref 111, .ref 113]),
  (2, [.ref 104]),
  (20, List.replicate 4 (.int 0)),
  (2, [.ref 106]),
  (20, List.replicate 4 (.int 0)),
  (2, [.ref 108]),
  (20, List.replicate 4 (.int 0)),
  (2, [.ref 110]),
  (20, List.replicate 4 (.int 0)),
  (2, [.ref 112]),
  (20, List.replicate 40 (.int 0)),
  (2, [.ref 114]),
  (20, List.replicate 16 (.int 0)),
  (4, [.int 0, .ref 116, .ref 118, .ref 120, .ref 122, .ref 124, .ref 126]),
  (2, [.ref 117]),
  (20, List.replicate 4 (.int 0)),
  (2, [.ref 119]),
  (20, List.replicate 4 (.int 0)),
  (2, [.ref 121]),
  (20, List.replicate 4 (.int 0)),
  (2, [.ref 123]),
  (20, List.replicate 4 (.int 0)),
  (2, [.ref 125]),
  (20, List.replicate 40 (.int 0)),
  (2, [.ref 127]),
  (20, List.replicate 16 (.int 0)),
  (4, [.int 0, .ref 129, .ref 131, .ref 133, .ref 135, .ref 137, .ref 139]),
  (2, [.ref 130]),
  (20, List.replicate 4 (.int 0)),
  (2, [.ref 132]),
  (20, List.replicate 4 (.int 0)),
  (2, [.ref 134]),
  (20, List.replicate 4 (.int 0)),
  (2, [.ref 136]),
  (20, List.replicate 4 (.int 0)),
  (2, [.ref 138]),
  (20, List.replicate 40 (.int 0)),
  (2, [.ref 140]),
  (20, List.replicate 16 (.int 0)),
  (4, [.int 0, .ref 142, .ref 144, .ref 146, .ref 148, .ref 150, .ref 152]),
  (2, [.ref 143]),
  (20, List.replicate 4 (.int 0)),
  (2, [.ref 145]),
  (20, List.replicate 4 (.int 0)),
  (2, [.ref 147]),
  (20, List.replicate 4 (.int 0)),
  (2, [.ref 149]),
  (20, List.replicate 4 (.int 0)),
  (2, [.ref 151]),
  (20, List.replicate 40 (.int 0)),
  (2, [.ref 153]),
  (20, List.replicate 16 (.int 0)),
  (4, [.int 0, .ref 155, .ref 157, .ref 159, .ref 161, .ref 163, .ref 165]),
  (2, [.ref 156]),
  (20, List.replicate 4 (.int 0)),
  (2, [.ref 158]),
  (20, List.replicate 4 (.int 0)),
  (2, [.ref 160]),
  (20, List.replicate 4 (.int 0)),
  (2, [.ref 162]),
  (20, List.replicate 4 (.int 0)),
  (2, [.ref 164]),
  (20, List.replicate 40 (.int 0)),
  (2, [.ref 166]),
  (20, List.replicate 16 (.int 0)),
  (4, [.int 0, .ref 168, .ref 170, .ref 172, .ref 174, .ref 176, .ref 178]),
  (2, [.ref 169]),
  (20, List.replicate 4 (.int 0)),
  (2, [.ref 171]),
  (20, List.replicate 4 (.int 0)),
  (2, [.ref 173]),
  (20, List.replicate 4 (.int 0)),
  (2, [.ref 175]),
  (20, List.replicate 4 (.int 0)),
  (2, [.ref 177]),
  (20, List.replicate 40 (.int 0)),
  (2, [.ref 179]),
  (20, List.replicate 16 (.int 0)),
  (6, [.ref 181, .int 0]),
  (2, [.ref 182]),
  (20, List.replicate 8 (.int 0)),
  (7, [.ref 184, .int 0]),
  (2, [.ref 185]),
  (20, List.replicate 10 (.int 0)),
  (8, [.ref 187, .ref 188, .ref 191, .ref 193, .int 0, .int 0, .int 0]),
  (23, [.ref 195, .ref 198, .ref 201, .ref 204, .ref 207, .ref 210]),
  (6, [.ref 189, .int 0]),
  (2, [.ref 190]),
  (20, List.replicate 8 (.int 0)),
  (2, [.ref 192]),
  (20, List.replicate 6 (.int 0)),
  (2, [.ref 194]),
  (20, List.replicate 6 (.int 0)),
  (6, [.ref 196, .int 0]),
  (2, [.ref 197]),
  (20, List.replicate 8 (.int 0)),
  (6, [.ref 199, .int 0]),
  (2, [.ref 200]),
  (20, List.replicate 8 (.int 0)),
  (6, [.ref 202, .int 0]),
  (2, [.ref 203]),
  (20, List.replicate 8 (.int 0)),
  (6, [.ref 205, .int 0]),
  (2, [.ref 206]),
  (20, List.replicate 8 (.int 0)),
  (6, [.ref 208, .int 0]),
  (2, [.ref 209]),
  (20, List.replicate 8 (.int 0)),
  (6, [.ref 211, .int 0]),
  (2, [.ref 212]),
  (20, List.replicate 8 (.int 0)),
  (9, [.ref 214, .ref 217, .ref 220, .int 0, .int 0, .int 0, .int 0]),
  (6, [.ref 215, .int 0]),
  (2, [.ref 216]),
  (20, List.replicate 8 (.int 0)),
  (6, [.ref 218, .int 0]),
  (2, [.ref 219]),
  (20, List.replicate 8 (.int 0)),
  (2, [.ref 221]),
  (20, List.replicate 16 (.int 0)),
  (10, [.ref 223, .int 0, .ref 224, .ref 225, .int 0, .ref 226, .int 0, .ref 227, .ref 228, .int 0, .ref 229, .int 0, .ref 230, .ref 231, .int 0, .int 9, .int 0, .ref 232, .int 0, .ref 233, .ref 234, .int 0, .int 0, .int 0, .int 0, .int 0, .int 0, .int 0, .ref 235, .int 0, .ref 236, .ref 237, .int 0, .int 0, .ref 238]),
  (20, List.replicate 803 (.int 0)),
  (21, List.replicate 2 (.int 0)),
  (20, List.replicate 160 (.int 0)),
  (20, List.replicate 56 (.int 0)),
  (20, List.replicate 10 (.int 0)),
  (20, List.replicate 10 (.int 0)),
  (20, List.replicate 18 (.int 0)),
  (20, List.replicate 4 (.int 0)),
  (20, List.replicate 4 (.int 0)),
  (20, List.replicate 8 (.int 0)),
  (20, List.replicate 48 (.int 0)),
  (20, List.replicate 6 (.int 0)),
  (20, List.replicate 8 (.int 0)),
  (20, List.replicate 8 (.int 0)),
  (20, List.replicate 8 (.int 0)),
  (20, List.replicate 16 (.int 0))]
set_option maxRecDepth 1000000 in
theorem zck51 : zrunF (zevF 9) zpC144 71 0 [some (.ref 222)] [] zw49 = some (none, zw50) := by decide +kernel
theorem zct144 {L : Nat} {xs : Nat → Int32} : zEv L xs 10 144 [.ref 222] zw49 none zw50 := by
  refine zgw_ev zpC144_get (by decide) (by decide) (show zini 1 [.ref 222] = [some (.ref 222)] from rfl) ?_
  exact zgw_end (fun j As w v w2 h => zevF_ok _ j As w v w2 h) zck51
set_option maxRecDepth 1000000 in
theorem zck52 : zpreF (zevF 10) zlawM 18 4 15 [some (.ref zSCR), some (.ref 0), none, none] [.ref 222] zw50 = some ([some (.ref zSCR), some (.ref 0), some (.ref 222), some (.int 0)], [], zw50) := by decide +kernel
/-- the numbers at the start -/
def zg0 : zS := fun c k => if (c = 4 ∧ k = 3) ∨ (c = 19 ∧ k = 3) ∨ (c = 222 ∧ k = 15) then 9 else 0
set_option maxRecDepth 1000000 in
theorem zw_end : zw50 = wd zg0 := by decide +kernel
/-- the law comes to its loop, with the class, the reference made -/
theorem zlaw_pre {L : Nat} {xs : Nat → Int32} {r : Option Value} {w' : zW} (kk : zGw L xs 10 zlawM 18 [some (.ref zSCR), some (.ref 0), some (.ref 222), some (.int 0)] [] (wd zg0) r w') : zGw L xs 10 zlawM 0 (zini 4 [.ref zSCR]) [] [] r w' := by
  rw [← zw_end] at kk
  show zGw L xs 10 zlawM 0 [some (.ref zSCR), none, none, none] [] zw0 r w'
  refine zgw_pre (fun j As w v w2 h => zevF_ok _ j As w v w2 h) zck0 ?_
  refine zgw_new (j := 0) (o := 0) (N := zpC0) (ix := 9) zct0 rfl (by decide +kernel) (by decide +kernel) rfl rfl rfl (by decide) ?_
  refine zgw_pre (fun j As w v w2 h => zevF_ok _ j As w v w2 h) zck50 ?_
  refine zgw_new (j := 144) (o := 222) (N := zpC144) (ix := 12) zct144 rfl (by decide +kernel) (by decide +kernel) rfl rfl rfl (by decide) ?_
  refine zgw_pre (fun j As w v w2 h => zevF_ok _ j As w v w2 h) zck52 ?_
  exact kk
theorem zwd_len (g : zS) : (wd g).length = 239 := by
  unfold wd
  rw [List.length_mapIdx]
  rfl
theorem zwd_sz (g : zS) : zsz (wd g) = 2633 := by
  have h : (wd g).map (fun c => c.2.length) = zshape.map (fun c => c.2.length) := by
    apply List.ext_getElem?
    intro i
    unfold wd
    rw [List.getElem?_map, List.getElem?_mapIdx, List.getElem?_map]
    cases zshape[i]? with
    | none => rfl
    | some q => show some (zsl g i q.2).length = some q.2.length; rw [zsl_len]
  unfold zsz
  rw [h]
  decide +kernel
end
section
-- ===== words of the functions that the methods are turned into =====
theorem zif_some {β : Type} {c : Prop} [Decidable c] {t : Option β} {y : β} (h : (if c then t else none) = some y) : c ∧ t = some y := by
  by_cases hc : c
  · rw [if_pos hc] at h
    exact ⟨hc, h⟩
  · rw [if_neg hc] at h
    cases h
def zbd {α β : Type} (o : Option (α × zS)) (k : α → zS → Option β) : Option β := match o with
  | some q => k q.1 q.2
  | none => none
theorem zbd_some {α β : Type} {o : Option (α × zS)} {k : α → zS → Option β} {y : β} (h : zbd o k = some y) : ∃ a g, o = some (a, g) ∧ k a g = some y := by
  cases o with
  | none => cases h
  | some q => exact ⟨q.1, q.2, rfl, h⟩
def zov (z : Option Nat) : Value := match z with
  | some q => .ref q
  | none => .null
theorem zov_rv (z : Option Nat) : zrv (zov z) = true := by cases z <;> rfl
def zcs {β : Type} (z : Option Nat) (a : β) (b : Nat → β) : β := match z with
  | none => a
  | some q => b q
theorem zcs_n {β : Type} {a : β} {b : Nat → β} : zcs none a b = a := rfl
theorem zcs_s {β : Type} {q : Nat} {a : β} {b : Nat → β} : zcs (some q) a b = b q := rfl
theorem zsm {P : Nat → Prop} {e : Nat} (h : P e) : ∀ q, some e = some q → P q := fun q hq => by cases hq; exact h
/-- a row of states, a row of lines -/
def zSts (a : Nat) : Prop := zRef 22 a ∧ ∀ i : Int32, zin i (zlen a) → zState (zel a i.toNatClampNeg)
def zstB (a : Nat) : Bool := match zsh a with
  | some q => decide (q.1 = 22) && (List.range q.2.length).all (fun i => decide (q.2[i]? = some (some (zel a i))) && decide (zsh (zel a i) = some (4, [none, some (zel a i + 1), some (zel a i + 3), some (zel a i + 5), some (zel a i + 7), some (zel a i + 9), some (zel a i + 11)])) && [1, 3, 5, 7, 9, 11].all (fun k => decide (zsh (zel a i + k) = some (2, [some (zel a i + k + 1)])) && decide (zsh (zel a i + k + 1) = some (20, List.replicate (zlen (zel a i + k + 1)) none))))
  | none => false
theorem zstB_ok {a : Nat} (h : zstB a = true) : zSts a := by
  unfold zstB at h
  split at h
  · rename_i q hq
    simp only [Bool.and_eq_true, decide_eq_true_eq] at h
    obtain ⟨h1, h2⟩ := h
    have hl : zlen a = q.2.length := by
      unfold zlen
      rw [hq]
    have key : ∀ i, i < q.2.length → q.2[i]? = some (some (zel a i)) ∧ zState (zel a i) := by
      intro i hi
      have h3 := List.all_eq_true.mp h2 i (List.mem_range.mpr hi)
      simp only [Bool.and_eq_true, decide_eq_true_eq, List.all_cons, List.all_nil, and_true] at h3
      obtain ⟨⟨h4, h5⟩, h6⟩ := h3
      exact ⟨h4, h5, h6.1, h6.2.1, h6.2.2.1, h6.2.2.2.1, h6.2.2.2.2.1, h6.2.2.2.2.2⟩
    refine ⟨⟨q.2, ?_, fun i hi => (key i hi).1⟩, fun i hi => (key _ ?_).2⟩
    · rw [hq, ← h1]
    · rw [← hl]
      exact zin_lt hi
  · cases h
theorem sts48 : zSts 48 := zstB_ok (by decide +kernel)
theorem sts49 : zSts 49 := zstB_ok (by decide +kernel)
def zlnB (a : Nat) : Bool := match zsh a with
  | some q => decide (q.1 = 23) && (List.range q.2.length).all (fun i => decide (q.2[i]? = some (some (zel a i))) && decide (zsh (zel a i) = some (6, [some (zel a i + 1), none])) && (decide (zsh (zel a i + 1) = some (2, [some (zel a i + 1 + 1)])) && decide (zsh (zel a i + 1 + 1) = some (20, List.replicate (zlen (zel a i + 1 + 1)) none))))
  | none => false
theorem zlnB_ok {a : Nat} (h : zlnB a = true) : zRef 23 a ∧ ∀ i : Int32, zin i (zlen a) → zLine (zel a i.toNatClampNeg) := by
  unfold zlnB at h
  split at h
  · rename_i q hq
    simp only [Bool.and_eq_true, decide_eq_true_eq] at h
    obtain ⟨h1, h2⟩ := h
    have hl : zlen a = q.2.length := by
      unfold zlen
      rw [hq]
    have key : ∀ i, i < q.2.length → q.2[i]? = some (some (zel a i)) ∧ zLine (zel a i) := by
      intro i hi
      have h3 := List.all_eq_true.mp h2 i (List.mem_range.mpr hi)
      simp only [Bool.and_eq_true, decide_eq_true_eq] at h3
      obtain ⟨⟨h4, h5⟩, h6⟩ := h3
      exact ⟨h4, h5, h6.1, h6.2⟩
    refine ⟨⟨q.2, ?_, fun i hi => (key i hi).1⟩, fun i hi => (key _ ?_).2⟩
    · rw [hq, ← h1]
    · rw [← hl]
      exact zin_lt hi
  · cases h
theorem ref187 : zRef 23 187 := (zlnB_ok (by decide +kernel)).1
theorem ref187_el (i : Int32) (h : zin i 6) : zLine (zel 187 i.toNatClampNeg) := (zlnB_ok (a := 187) (by decide +kernel)).2 i h
section ZR2
variable {L : Nat} {xs : Nat → Int32} {d : Nat} {M : zPM} {pc : Nat} {ls : zL} {st : List Value} {g g' : zS} {r : Option Value}
theorem y_alenS {a : Nat} (hd : decode M.2.1 pc = .ok (.arraylength, 1)) (ha : zRef 22 a) (kk : zG2 L xs d M (pc + 1) ls (.int (nI (zlen a)) :: st) g r g') : zG2 L xs d M pc ls (.ref a :: st) g r g' := by
  obtain ⟨sl, h1, -⟩ := ha
  refine y_alen hd h1 (by decide) (by decide) ?_ kk
  unfold zlen
  rw [h1]
  rfl
theorem y_invVi {ix j o ci : Nat} {As rest : List Value} {N : zPM} {x : Int32} {sl : List (Option Nat)} {g2 : zS} (he : zE2 L xs d j (.ref o :: As) g (some (.int x)) g2) (hd : decode M.2.1 pc = .ok (.invokevirtual ix, 3)) (hm : zmx M.2.2.2.2 ix = some (j, 1)) (hN : zpms[j]? = some N) (hna : zna[j]? = some As.length) (hst : st = As.reverse ++ .ref o :: rest) (hcat : zcat rest ≤ 8) (hs : zsh o = some (ci, sl)) (hci : ci < 11) (hc : zcn ci = N.1.cls) (kk : zG2 L xs d M (pc + 3) ls (.int x :: rest) g2 r g') : zG2 L xs d M pc ls st g r g' := y_invV he hd hm hN hna hst hcat hs hci hc kk
theorem y_invVv {ix j o ci : Nat} {As rest : List Value} {N : zPM} {sl : List (Option Nat)} {g2 : zS} (he : zE2 L xs d j (.ref o :: As) g none g2) (hd : decode M.2.1 pc = .ok (.invokevirtual ix, 3)) (hm : zmx M.2.2.2.2 ix = some (j, 1)) (hN : zpms[j]? = some N) (hna : zna[j]? = some As.length) (hst : st = As.reverse ++ .ref o :: rest) (hcat : zcat rest ≤ 8) (hs : zsh o = some (ci, sl)) (hci : ci < 11) (hc : zcn ci = N.1.cls) (kk : zG2 L xs d M (pc + 3) ls rest g2 r g') : zG2 L xs d M pc ls st g r g' := y_invV he hd hm hN hna hst hcat hs hci hc kk
theorem y_invVz {ix j o ci : Nat} {As rest : List Value} {N : zPM} {z : Option Nat} {sl : List (Option Nat)} {g2 : zS} (he : zE2 L xs d j (.ref o :: As) g (some (zov z)) g2) (hd : decode M.2.1 pc = .ok (.invokevirtual ix, 3)) (hm : zmx M.2.2.2.2 ix = some (j, 1)) (hN : zpms[j]? = some N) (hna : zna[j]? = some As.length) (hst : st = As.reverse ++ .ref o :: rest) (hcat : zcat rest ≤ 8) (hs : zsh o = some (ci, sl)) (hci : ci < 11) (hc : zcn ci = N.1.cls) (kk : zG2 L xs d M (pc + 3) ls (zov z :: rest) g2 r g') : zG2 L xs d M pc ls st g r g' := y_invV he hd hm hN hna hst hcat hs hci hc kk
theorem y_invSi {ix j : Nat} {As rest : List Value} {N : zPM} {x : Int32} {g2 : zS} (he : zE2 L xs d j As g (some (.int x)) g2) (hd : decode M.2.1 pc = .ok (.invokestatic ix, 3)) (hm : zmx M.2.2.2.2 ix = some (j, 0)) (hN : zpms[j]? = some N) (hna : zna[j]? = some As.length) (hst : st = As.reverse ++ rest) (hcat : zcat rest ≤ 8) (kk : zG2 L xs d M (pc + 3) ls (.int x :: rest) g2 r g') : zG2 L xs d M pc ls st g r g' := y_invS he hd hm hN hna hst hcat kk
theorem y_invSz {ix j : Nat} {As rest : List Value} {N : zPM} {z : Option Nat} {g2 : zS} (he : zE2 L xs d j As g (some (zov z)) g2) (hd : decode M.2.1 pc = .ok (.invokestatic ix, 3)) (hm : zmx M.2.2.2.2 ix = some (j, 0)) (hN : zpms[j]? = some N) (hna : zna[j]? = some As.length) (hst : st = As.reverse ++ rest) (hcat : zcat rest ≤ 8) (kk : zG2 L xs d M (pc + 3) ls (zov z :: rest) g2 r g') : zG2 L xs d M pc ls st g r g' := y_invS he hd hm hN hna hst hcat kk
theorem y_invTi {ix j : Nat} {As rest : List Value} {N : zPM} {x : Int32} {g2 : zS} (he : zE2 L xs d j (.ref zSTR :: As) g (some (.int x)) g2) (hd : decode M.2.1 pc = .ok (.invokevirtual ix, 3)) (hm : zmx M.2.2.2.2 ix = some (j, 1)) (hN : zpms[j]? = some N) (hna : zna[j]? = some As.length) (hst : st = As.reverse ++ .ref zSTR :: rest) (hcat : zcat rest ≤ 8) (hc : N.1.cls = "java/lang/String") (kk : zG2 L xs d M (pc + 3) ls (.int x :: rest) g2 r g') : zG2 L xs d M pc ls st g r g' := y_invT he hd hm hN hna hst hcat hc kk
theorem zin_nI {i : Int32} {n : Nat} (h : zin i n) (hn : n < 2 ^ 31) : i = nI i.toNatClampNeg := by
  obtain ⟨j, hj, rfl⟩ := vp_in_of (zin_vp h) hn
  rw [nI_clamp (by omega)]
theorem zstrlen (d : Nat) {g : zS} : zE2 L xs (d + 5) zjLen [.ref zSTR] g (some (.int 97)) g := Or.inl ⟨rfl, by omega, rfl, rfl, rfl⟩
theorem zstrch (d : Nat) {g : zS} {i : Int32} (h : zin i 97) : zE2 L xs (d + 5) zjCh [.ref zSTR, .int i] g (some (.int (zbyt i.toNatClampNeg))) g := Or.inr (Or.inl ⟨rfl, by omega, i.toNatClampNeg, zin_lt h, by rw [← zin_nI h (by decide)], rfl, rfl⟩)
end ZR2
end
