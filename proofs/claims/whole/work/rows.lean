section
-- ===== PART A: goes FIRST, ahead of the names: the tables' words, and 'selects' of the private methods out of them =====
/-- a private method of a class that the tables say can be made, by its rows of tables_1 -/
def lw_okq (q : MethodName × Nat) : Prop := (q.1.cls ≠ "java/lang/invoke/MethodHandle" ∧ q.1.cls ≠ "java/lang/invoke/VarHandle") ∧ Cond.instantiable q.1.cls q.2 ∈ tables_1 ∧ Cond.privateMethod q.1 ∈ tables_1 ∧ Cond.instanceMethod q.1 ∈ tables_1
theorem lw_p0 : lw_okq (⟨"LeftLacks", "error", "(I)I"⟩, 9) := ⟨⟨by decide +kernel, by decide +kernel⟩, List.mem_of_getElem? (i := 21) (by decide +kernel), List.mem_of_getElem? (i := 345) (by decide +kernel), List.mem_of_getElem? (i := 346) (by decide +kernel)⟩
theorem lw_p1 : lw_okq (⟨"LeftLacks$Reader", "takes", "(I)Z"⟩, 9) := ⟨⟨by decide +kernel, by decide +kernel⟩, List.mem_of_getElem? (i := 191) (by decide +kernel), List.mem_of_getElem? (i := 488) (by decide +kernel), List.mem_of_getElem? (i := 489) (by decide +kernel)⟩
theorem lw_p2 : lw_okq (⟨"LeftLacks$Reader", "takesDigit", "(I)Z"⟩, 9) := ⟨⟨by decide +kernel, by decide +kernel⟩, List.mem_of_getElem? (i := 191) (by decide +kernel), List.mem_of_getElem? (i := 493) (by decide +kernel), List.mem_of_getElem? (i := 494) (by decide +kernel)⟩
theorem lw_p3 : lw_okq (⟨"LeftLacks$Reader", "emit", "(I)V"⟩, 9) := ⟨⟨by decide +kernel, by decide +kernel⟩, List.mem_of_getElem? (i := 191) (by decide +kernel), List.mem_of_getElem? (i := 497) (by decide +kernel), List.mem_of_getElem? (i := 498) (by decide +kernel)⟩
theorem lw_p4 : lw_okq (⟨"LeftLacks$Reader", "opens", "(I)Z"⟩, 9) := ⟨⟨by decide +kernel, by decide +kernel⟩, List.mem_of_getElem? (i := 191) (by decide +kernel), List.mem_of_getElem? (i := 501) (by decide +kernel), List.mem_of_getElem? (i := 502) (by decide +kernel)⟩
theorem lw_p5 : lw_okq (⟨"LeftLacks$Reader", "push", "(I)V"⟩, 9) := ⟨⟨by decide +kernel, by decide +kernel⟩, List.mem_of_getElem? (i := 191) (by decide +kernel), List.mem_of_getElem? (i := 505) (by decide +kernel), List.mem_of_getElem? (i := 506) (by decide +kernel)⟩
theorem lw_p6 : lw_okq (⟨"LeftLacks$Reader", "takesName", "(I)Z"⟩, 9) := ⟨⟨by decide +kernel, by decide +kernel⟩, List.mem_of_getElem? (i := 191) (by decide +kernel), List.mem_of_getElem? (i := 509) (by decide +kernel), List.mem_of_getElem? (i := 510) (by decide +kernel)⟩
theorem lw_p7 : lw_okq (⟨"LeftLacks$Reader", "closes", "()Z"⟩, 9) := ⟨⟨by decide +kernel, by decide +kernel⟩, List.mem_of_getElem? (i := 191) (by decide +kernel), List.mem_of_getElem? (i := 597) (by decide +kernel), List.mem_of_getElem? (i := 598) (by decide +kernel)⟩
theorem lw_p8 : lw_okq (⟨"LeftLacks$Reader", "release", "(I)V"⟩, 9) := ⟨⟨by decide +kernel, by decide +kernel⟩, List.mem_of_getElem? (i := 191) (by decide +kernel), List.mem_of_getElem? (i := 601) (by decide +kernel), List.mem_of_getElem? (i := 602) (by decide +kernel)⟩
theorem lw_p9 : lw_okq (⟨"LeftLacks$Reader", "takesSign", "(I)Z"⟩, 9) := ⟨⟨by decide +kernel, by decide +kernel⟩, List.mem_of_getElem? (i := 191) (by decide +kernel), List.mem_of_getElem? (i := 608) (by decide +kernel), List.mem_of_getElem? (i := 609) (by decide +kernel)⟩
theorem lw_p10 : lw_okq (⟨"LeftLacks", "daysRefusal", "(I)I"⟩, 9) := ⟨⟨by decide +kernel, by decide +kernel⟩, List.mem_of_getElem? (i := 21) (by decide +kernel), List.mem_of_getElem? (i := 682) (by decide +kernel), List.mem_of_getElem? (i := 683) (by decide +kernel)⟩
theorem lw_p11 : lw_okq (⟨"LeftLacks$Speaker", "say", "(IIII)I"⟩, 6) := ⟨⟨by decide +kernel, by decide +kernel⟩, List.mem_of_getElem? (i := 229) (by decide +kernel), List.mem_of_getElem? (i := 790) (by decide +kernel), List.mem_of_getElem? (i := 791) (by decide +kernel)⟩
theorem lw_p12 : lw_okq (⟨"LeftLacks$Speaker", "note", "(I)V"⟩, 6) := ⟨⟨by decide +kernel, by decide +kernel⟩, List.mem_of_getElem? (i := 229) (by decide +kernel), List.mem_of_getElem? (i := 801) (by decide +kernel), List.mem_of_getElem? (i := 802) (by decide +kernel)⟩
theorem lw_p13 : lw_okq (⟨"LeftLacks$Speaker", "part", "(I)I"⟩, 6) := ⟨⟨by decide +kernel, by decide +kernel⟩, List.mem_of_getElem? (i := 229) (by decide +kernel), List.mem_of_getElem? (i := 805) (by decide +kernel), List.mem_of_getElem? (i := 806) (by decide +kernel)⟩
theorem lw_p14 : lw_okq (⟨"LeftLacks$Speaker", "partAndFill", "(III)I"⟩, 6) := ⟨⟨by decide +kernel, by decide +kernel⟩, List.mem_of_getElem? (i := 229) (by decide +kernel), List.mem_of_getElem? (i := 809) (by decide +kernel), List.mem_of_getElem? (i := 810) (by decide +kernel)⟩
theorem lw_p15 : lw_okq (⟨"LeftLacks", "sheetRefusal", "(I)I"⟩, 9) := ⟨⟨by decide +kernel, by decide +kernel⟩, List.mem_of_getElem? (i := 21) (by decide +kernel), List.mem_of_getElem? (i := 854) (by decide +kernel), List.mem_of_getElem? (i := 855) (by decide +kernel)⟩
def lw_privs_1 : List (MethodName × Nat) := [(⟨"LeftLacks", "error", "(I)I"⟩, 9), (⟨"LeftLacks$Reader", "takes", "(I)Z"⟩, 9), (⟨"LeftLacks$Reader", "takesDigit", "(I)Z"⟩, 9), (⟨"LeftLacks$Reader", "emit", "(I)V"⟩, 9), (⟨"LeftLacks$Reader", "opens", "(I)Z"⟩, 9), (⟨"LeftLacks$Reader", "push", "(I)V"⟩, 9), (⟨"LeftLacks$Reader", "takesName", "(I)Z"⟩, 9), (⟨"LeftLacks$Reader", "closes", "()Z"⟩, 9), (⟨"LeftLacks$Reader", "release", "(I)V"⟩, 9), (⟨"LeftLacks$Reader", "takesSign", "(I)Z"⟩, 9), (⟨"LeftLacks", "daysRefusal", "(I)I"⟩, 9), (⟨"LeftLacks$Speaker", "say", "(IIII)I"⟩, 6), (⟨"LeftLacks$Speaker", "note", "(I)V"⟩, 6), (⟨"LeftLacks$Speaker", "part", "(I)I"⟩, 6), (⟨"LeftLacks$Speaker", "partAndFill", "(III)I"⟩, 6), (⟨"LeftLacks", "sheetRefusal", "(I)I"⟩, 9)]
theorem lw_r1 : ∀ q ∈ lw_privs_1, lw_okq q := List.forall_mem_cons.mpr ⟨lw_p0, List.forall_mem_cons.mpr ⟨lw_p1, List.forall_mem_cons.mpr ⟨lw_p2, List.forall_mem_cons.mpr ⟨lw_p3, List.forall_mem_cons.mpr ⟨lw_p4, List.forall_mem_cons.mpr ⟨lw_p5, List.forall_mem_cons.mpr ⟨lw_p6, List.forall_mem_cons.mpr ⟨lw_p7, List.forall_mem_cons.mpr ⟨lw_p8, List.forall_mem_cons.mpr ⟨lw_p9, List.forall_mem_cons.mpr ⟨lw_p10, List.forall_mem_cons.mpr ⟨lw_p11, List.forall_mem_cons.mpr ⟨lw_p12, List.forall_mem_cons.mpr ⟨lw_p13, List.forall_mem_cons.mpr ⟨lw_p14, List.forall_mem_cons.mpr ⟨lw_p15, fun _ h => absurd h List.not_mem_nil⟩⟩⟩⟩⟩⟩⟩⟩⟩⟩⟩⟩⟩⟩⟩⟩
theorem lw_p16 : lw_okq (⟨"LeftLacks$Search", "tryFrom", "(LLeftLacks$World;II)V"⟩, 7) := ⟨⟨by decide +kernel, by decide +kernel⟩, List.mem_of_getElem? (i := 257) (by decide +kernel), List.mem_of_getElem? (i := 872) (by decide +kernel), List.mem_of_getElem? (i := 873) (by decide +kernel)⟩
theorem lw_p17 : lw_okq (⟨"LeftLacks$Search", "judgeSet", "(LLeftLacks$World;I)V"⟩, 7) := ⟨⟨by decide +kernel, by decide +kernel⟩, List.mem_of_getElem? (i := 257) (by decide +kernel), List.mem_of_getElem? (i := 877) (by decide +kernel), List.mem_of_getElem? (i := 878) (by decide +kernel)⟩
theorem lw_p18 : lw_okq (⟨"LeftLacksModel", "error", "(I)I"⟩, 20) := ⟨⟨by decide +kernel, by decide +kernel⟩, List.mem_of_getElem? (i := 914) (by decide +kernel), List.mem_of_getElem? (i := 991) (by decide +kernel), List.mem_of_getElem? (i := 992) (by decide +kernel)⟩
theorem lw_p19 : lw_okq (⟨"LeftLacksModel", "lays1", "(III)V"⟩, 20) := ⟨⟨by decide +kernel, by decide +kernel⟩, List.mem_of_getElem? (i := 914) (by decide +kernel), List.mem_of_getElem? (i := 1004) (by decide +kernel), List.mem_of_getElem? (i := 1005) (by decide +kernel)⟩
theorem lw_p20 : lw_okq (⟨"LeftLacksModel", "isShop", "(I)Z"⟩, 20) := ⟨⟨by decide +kernel, by decide +kernel⟩, List.mem_of_getElem? (i := 914) (by decide +kernel), List.mem_of_getElem? (i := 1012) (by decide +kernel), List.mem_of_getElem? (i := 1013) (by decide +kernel)⟩
theorem lw_p21 : lw_okq (⟨"LeftLacksModel", "toldShop", "(II)I"⟩, 20) := ⟨⟨by decide +kernel, by decide +kernel⟩, List.mem_of_getElem? (i := 914) (by decide +kernel), List.mem_of_getElem? (i := 1016) (by decide +kernel), List.mem_of_getElem? (i := 1017) (by decide +kernel)⟩
theorem lw_p22 : lw_okq (⟨"LeftLacksModel", "maySell", "(I)I"⟩, 20) := ⟨⟨by decide +kernel, by decide +kernel⟩, List.mem_of_getElem? (i := 914) (by decide +kernel), List.mem_of_getElem? (i := 1020) (by decide +kernel), List.mem_of_getElem? (i := 1021) (by decide +kernel)⟩
theorem lw_p23 : lw_okq (⟨"LeftLacksModel", "may", "(II)Z"⟩, 20) := ⟨⟨by decide +kernel, by decide +kernel⟩, List.mem_of_getElem? (i := 914) (by decide +kernel), List.mem_of_getElem? (i := 1024) (by decide +kernel), List.mem_of_getElem? (i := 1025) (by decide +kernel)⟩
theorem lw_p24 : lw_okq (⟨"LeftLacksModel", "left", "(I)I"⟩, 20) := ⟨⟨by decide +kernel, by decide +kernel⟩, List.mem_of_getElem? (i := 914) (by decide +kernel), List.mem_of_getElem? (i := 1028) (by decide +kernel), List.mem_of_getElem? (i := 1029) (by decide +kernel)⟩
theorem lw_p25 : lw_okq (⟨"LeftLacksModel", "its", "(II)I"⟩, 20) := ⟨⟨by decide +kernel, by decide +kernel⟩, List.mem_of_getElem? (i := 914) (by decide +kernel), List.mem_of_getElem? (i := 1032) (by decide +kernel), List.mem_of_getElem? (i := 1033) (by decide +kernel)⟩
theorem lw_p26 : lw_okq (⟨"LeftLacksModel", "lacks1", "(III)Z"⟩, 20) := ⟨⟨by decide +kernel, by decide +kernel⟩, List.mem_of_getElem? (i := 914) (by decide +kernel), List.mem_of_getElem? (i := 1036) (by decide +kernel), List.mem_of_getElem? (i := 1037) (by decide +kernel)⟩
theorem lw_p27 : lw_okq (⟨"LeftLacksModel", "addCustomer", "(III)V"⟩, 20) := ⟨⟨by decide +kernel, by decide +kernel⟩, List.mem_of_getElem? (i := 914) (by decide +kernel), List.mem_of_getElem? (i := 1058) (by decide +kernel), List.mem_of_getElem? (i := 1059) (by decide +kernel)⟩
theorem lw_p28 : lw_okq (⟨"LeftLacksModel", "isCustomer", "(I)Z"⟩, 20) := ⟨⟨by decide +kernel, by decide +kernel⟩, List.mem_of_getElem? (i := 914) (by decide +kernel), List.mem_of_getElem? (i := 1066) (by decide +kernel), List.mem_of_getElem? (i := 1067) (by decide +kernel)⟩
theorem lw_p29 : lw_okq (⟨"LeftLacksModel", "of", "(II)I"⟩, 20) := ⟨⟨by decide +kernel, by decide +kernel⟩, List.mem_of_getElem? (i := 914) (by decide +kernel), List.mem_of_getElem? (i := 1070) (by decide +kernel), List.mem_of_getElem? (i := 1071) (by decide +kernel)⟩
theorem lw_p30 : lw_okq (⟨"LeftLacksModel", "whole", "()Z"⟩, 20) := ⟨⟨by decide +kernel, by decide +kernel⟩, List.mem_of_getElem? (i := 914) (by decide +kernel), List.mem_of_getElem? (i := 1087) (by decide +kernel), List.mem_of_getElem? (i := 1088) (by decide +kernel)⟩
theorem lw_p31 : lw_okq (⟨"LeftLacksModel", "both", "()Z"⟩, 20) := ⟨⟨by decide +kernel, by decide +kernel⟩, List.mem_of_getElem? (i := 914) (by decide +kernel), List.mem_of_getElem? (i := 1091) (by decide +kernel), List.mem_of_getElem? (i := 1092) (by decide +kernel)⟩
def lw_privs_2 : List (MethodName × Nat) := [(⟨"LeftLacks$Search", "tryFrom", "(LLeftLacks$World;II)V"⟩, 7), (⟨"LeftLacks$Search", "judgeSet", "(LLeftLacks$World;I)V"⟩, 7), (⟨"LeftLacksModel", "error", "(I)I"⟩, 20), (⟨"LeftLacksModel", "lays1", "(III)V"⟩, 20), (⟨"LeftLacksModel", "isShop", "(I)Z"⟩, 20), (⟨"LeftLacksModel", "toldShop", "(II)I"⟩, 20), (⟨"LeftLacksModel", "maySell", "(I)I"⟩, 20), (⟨"LeftLacksModel", "may", "(II)Z"⟩, 20), (⟨"LeftLacksModel", "left", "(I)I"⟩, 20), (⟨"LeftLacksModel", "its", "(II)I"⟩, 20), (⟨"LeftLacksModel", "lacks1", "(III)Z"⟩, 20), (⟨"LeftLacksModel", "addCustomer", "(III)V"⟩, 20), (⟨"LeftLacksModel", "isCustomer", "(I)Z"⟩, 20), (⟨"LeftLacksModel", "of", "(II)I"⟩, 20), (⟨"LeftLacksModel", "whole", "()Z"⟩, 20), (⟨"LeftLacksModel", "both", "()Z"⟩, 20)]
theorem lw_r2 : ∀ q ∈ lw_privs_2, lw_okq q := List.forall_mem_cons.mpr ⟨lw_p16, List.forall_mem_cons.mpr ⟨lw_p17, List.forall_mem_cons.mpr ⟨lw_p18, List.forall_mem_cons.mpr ⟨lw_p19, List.forall_mem_cons.mpr ⟨lw_p20, List.forall_mem_cons.mpr ⟨lw_p21, List.forall_mem_cons.mpr ⟨lw_p22, List.forall_mem_cons.mpr ⟨lw_p23, List.forall_mem_cons.mpr ⟨lw_p24, List.forall_mem_cons.mpr ⟨lw_p25, List.forall_mem_cons.mpr ⟨lw_p26, List.forall_mem_cons.mpr ⟨lw_p27, List.forall_mem_cons.mpr ⟨lw_p28, List.forall_mem_cons.mpr ⟨lw_p29, List.forall_mem_cons.mpr ⟨lw_p30, List.forall_mem_cons.mpr ⟨lw_p31, fun _ h => absurd h List.not_mem_nil⟩⟩⟩⟩⟩⟩⟩⟩⟩⟩⟩⟩⟩⟩⟩⟩
theorem lw_p32 : lw_okq (⟨"LeftLacksModel", "compared", "()Z"⟩, 20) := ⟨⟨by decide +kernel, by decide +kernel⟩, List.mem_of_getElem? (i := 914) (by decide +kernel), List.mem_of_getElem? (i := 1095) (by decide +kernel), List.mem_of_getElem? (i := 1096) (by decide +kernel)⟩
theorem lw_p33 : lw_okq (⟨"LeftLacksModel", "sum", "()Z"⟩, 20) := ⟨⟨by decide +kernel, by decide +kernel⟩, List.mem_of_getElem? (i := 914) (by decide +kernel), List.mem_of_getElem? (i := 1099) (by decide +kernel), List.mem_of_getElem? (i := 1100) (by decide +kernel)⟩
theorem lw_p34 : lw_okq (⟨"LeftLacksModel", "product", "()Z"⟩, 20) := ⟨⟨by decide +kernel, by decide +kernel⟩, List.mem_of_getElem? (i := 914) (by decide +kernel), List.mem_of_getElem? (i := 1103) (by decide +kernel), List.mem_of_getElem? (i := 1104) (by decide +kernel)⟩
theorem lw_p35 : lw_okq (⟨"LeftLacksModel", "one", "()Z"⟩, 20) := ⟨⟨by decide +kernel, by decide +kernel⟩, List.mem_of_getElem? (i := 914) (by decide +kernel), List.mem_of_getElem? (i := 1107) (by decide +kernel), List.mem_of_getElem? (i := 1108) (by decide +kernel)⟩
theorem lw_p36 : lw_okq (⟨"LeftLacksModel", "look", "()I"⟩, 20) := ⟨⟨by decide +kernel, by decide +kernel⟩, List.mem_of_getElem? (i := 914) (by decide +kernel), List.mem_of_getElem? (i := 1111) (by decide +kernel), List.mem_of_getElem? (i := 1112) (by decide +kernel)⟩
theorem lw_p37 : lw_okq (⟨"LeftLacksModel", "isName", "(I)Z"⟩, 20) := ⟨⟨by decide +kernel, by decide +kernel⟩, List.mem_of_getElem? (i := 914) (by decide +kernel), List.mem_of_getElem? (i := 1115) (by decide +kernel), List.mem_of_getElem? (i := 1116) (by decide +kernel)⟩
theorem lw_p38 : lw_okq (⟨"LeftLacksModel", "lays", "(II)V"⟩, 20) := ⟨⟨by decide +kernel, by decide +kernel⟩, List.mem_of_getElem? (i := 914) (by decide +kernel), List.mem_of_getElem? (i := 1119) (by decide +kernel), List.mem_of_getElem? (i := 1120) (by decide +kernel)⟩
theorem lw_p39 : lw_okq (⟨"LeftLacksModel", "opens", "()Z"⟩, 20) := ⟨⟨by decide +kernel, by decide +kernel⟩, List.mem_of_getElem? (i := 914) (by decide +kernel), List.mem_of_getElem? (i := 1123) (by decide +kernel), List.mem_of_getElem? (i := 1124) (by decide +kernel)⟩
theorem lw_p40 : lw_okq (⟨"LeftLacksModel", "hasText", "(I)Z"⟩, 20) := ⟨⟨by decide +kernel, by decide +kernel⟩, List.mem_of_getElem? (i := 914) (by decide +kernel), List.mem_of_getElem? (i := 1131) (by decide +kernel), List.mem_of_getElem? (i := 1132) (by decide +kernel)⟩
theorem lw_p41 : lw_okq (⟨"LeftLacksModel", "priceOf", "(II)I"⟩, 20) := ⟨⟨by decide +kernel, by decide +kernel⟩, List.mem_of_getElem? (i := 914) (by decide +kernel), List.mem_of_getElem? (i := 1139) (by decide +kernel), List.mem_of_getElem? (i := 1140) (by decide +kernel)⟩
theorem lw_p42 : lw_okq (⟨"LeftLacksModel", "priceTold", "(II)I"⟩, 20) := ⟨⟨by decide +kernel, by decide +kernel⟩, List.mem_of_getElem? (i := 914) (by decide +kernel), List.mem_of_getElem? (i := 1143) (by decide +kernel), List.mem_of_getElem? (i := 1144) (by decide +kernel)⟩
theorem lw_p43 : lw_okq (⟨"LeftLacksModel", "worked", "(I)I"⟩, 20) := ⟨⟨by decide +kernel, by decide +kernel⟩, List.mem_of_getElem? (i := 914) (by decide +kernel), List.mem_of_getElem? (i := 1147) (by decide +kernel), List.mem_of_getElem? (i := 1148) (by decide +kernel)⟩
theorem lw_p44 : lw_okq (⟨"LeftLacksModel", "fillsOf", "(II)I"⟩, 20) := ⟨⟨by decide +kernel, by decide +kernel⟩, List.mem_of_getElem? (i := 914) (by decide +kernel), List.mem_of_getElem? (i := 1161) (by decide +kernel), List.mem_of_getElem? (i := 1162) (by decide +kernel)⟩
theorem lw_p45 : lw_okq (⟨"LeftLacksModel", "fillsTold", "(II)I"⟩, 20) := ⟨⟨by decide +kernel, by decide +kernel⟩, List.mem_of_getElem? (i := 914) (by decide +kernel), List.mem_of_getElem? (i := 1165) (by decide +kernel), List.mem_of_getElem? (i := 1166) (by decide +kernel)⟩
theorem lw_p46 : lw_okq (⟨"LeftLacksModel", "dawns", "()V"⟩, 20) := ⟨⟨by decide +kernel, by decide +kernel⟩, List.mem_of_getElem? (i := 914) (by decide +kernel), List.mem_of_getElem? (i := 1173) (by decide +kernel), List.mem_of_getElem? (i := 1174) (by decide +kernel)⟩
theorem lw_p47 : lw_okq (⟨"LeftLacksModel", "fillAll", "(I)V"⟩, 20) := ⟨⟨by decide +kernel, by decide +kernel⟩, List.mem_of_getElem? (i := 914) (by decide +kernel), List.mem_of_getElem? (i := 1177) (by decide +kernel), List.mem_of_getElem? (i := 1178) (by decide +kernel)⟩
def lw_privs_3 : List (MethodName × Nat) := [(⟨"LeftLacksModel", "compared", "()Z"⟩, 20), (⟨"LeftLacksModel", "sum", "()Z"⟩, 20), (⟨"LeftLacksModel", "product", "()Z"⟩, 20), (⟨"LeftLacksModel", "one", "()Z"⟩, 20), (⟨"LeftLacksModel", "look", "()I"⟩, 20), (⟨"LeftLacksModel", "isName", "(I)Z"⟩, 20), (⟨"LeftLacksModel", "lays", "(II)V"⟩, 20), (⟨"LeftLacksModel", "opens", "()Z"⟩, 20), (⟨"LeftLacksModel", "hasText", "(I)Z"⟩, 20), (⟨"LeftLacksModel", "priceOf", "(II)I"⟩, 20), (⟨"LeftLacksModel", "priceTold", "(II)I"⟩, 20), (⟨"LeftLacksModel", "worked", "(I)I"⟩, 20), (⟨"LeftLacksModel", "fillsOf", "(II)I"⟩, 20), (⟨"LeftLacksModel", "fillsTold", "(II)I"⟩, 20), (⟨"LeftLacksModel", "dawns", "()V"⟩, 20), (⟨"LeftLacksModel", "fillAll", "(I)V"⟩, 20)]
theorem lw_r3 : ∀ q ∈ lw_privs_3, lw_okq q := List.forall_mem_cons.mpr ⟨lw_p32, List.forall_mem_cons.mpr ⟨lw_p33, List.forall_mem_cons.mpr ⟨lw_p34, List.forall_mem_cons.mpr ⟨lw_p35, List.forall_mem_cons.mpr ⟨lw_p36, List.forall_mem_cons.mpr ⟨lw_p37, List.forall_mem_cons.mpr ⟨lw_p38, List.forall_mem_cons.mpr ⟨lw_p39, List.forall_mem_cons.mpr ⟨lw_p40, List.forall_mem_cons.mpr ⟨lw_p41, List.forall_mem_cons.mpr ⟨lw_p42, List.forall_mem_cons.mpr ⟨lw_p43, List.forall_mem_cons.mpr ⟨lw_p44, List.forall_mem_cons.mpr ⟨lw_p45, List.forall_mem_cons.mpr ⟨lw_p46, List.forall_mem_cons.mpr ⟨lw_p47, fun _ h => absurd h List.not_mem_nil⟩⟩⟩⟩⟩⟩⟩⟩⟩⟩⟩⟩⟩⟩⟩⟩
theorem lw_p48 : lw_okq (⟨"LeftLacksModel", "gets", "(II)V"⟩, 20) := ⟨⟨by decide +kernel, by decide +kernel⟩, List.mem_of_getElem? (i := 914) (by decide +kernel), List.mem_of_getElem? (i := 1181) (by decide +kernel), List.mem_of_getElem? (i := 1182) (by decide +kernel)⟩
theorem lw_p49 : lw_okq (⟨"LeftLacksModel", "buys", "(I)V"⟩, 20) := ⟨⟨by decide +kernel, by decide +kernel⟩, List.mem_of_getElem? (i := 914) (by decide +kernel), List.mem_of_getElem? (i := 1187) (by decide +kernel), List.mem_of_getElem? (i := 1188) (by decide +kernel)⟩
theorem lw_p50 : lw_okq (⟨"LeftLacksModel", "hasOther", "(I)Z"⟩, 20) := ⟨⟨by decide +kernel, by decide +kernel⟩, List.mem_of_getElem? (i := 914) (by decide +kernel), List.mem_of_getElem? (i := 1191) (by decide +kernel), List.mem_of_getElem? (i := 1192) (by decide +kernel)⟩
theorem lw_p51 : lw_okq (⟨"LeftLacksModel", "buysOut", "(II)V"⟩, 20) := ⟨⟨by decide +kernel, by decide +kernel⟩, List.mem_of_getElem? (i := 914) (by decide +kernel), List.mem_of_getElem? (i := 1195) (by decide +kernel), List.mem_of_getElem? (i := 1196) (by decide +kernel)⟩
theorem lw_p52 : lw_okq (⟨"LeftLacksModel", "visits", "(I)I"⟩, 20) := ⟨⟨by decide +kernel, by decide +kernel⟩, List.mem_of_getElem? (i := 914) (by decide +kernel), List.mem_of_getElem? (i := 1203) (by decide +kernel), List.mem_of_getElem? (i := 1204) (by decide +kernel)⟩
theorem lw_p53 : lw_okq (⟨"LeftLacksModel", "shopOn", "(II)I"⟩, 20) := ⟨⟨by decide +kernel, by decide +kernel⟩, List.mem_of_getElem? (i := 914) (by decide +kernel), List.mem_of_getElem? (i := 1207) (by decide +kernel), List.mem_of_getElem? (i := 1208) (by decide +kernel)⟩
theorem lw_p54 : lw_okq (⟨"LeftLacksModel", "go", "(I)V"⟩, 20) := ⟨⟨by decide +kernel, by decide +kernel⟩, List.mem_of_getElem? (i := 914) (by decide +kernel), List.mem_of_getElem? (i := 1215) (by decide +kernel), List.mem_of_getElem? (i := 1216) (by decide +kernel)⟩
theorem lw_p55 : lw_okq (⟨"LeftLacksModel", "day", "(Z)V"⟩, 20) := ⟨⟨by decide +kernel, by decide +kernel⟩, List.mem_of_getElem? (i := 914) (by decide +kernel), List.mem_of_getElem? (i := 1219) (by decide +kernel), List.mem_of_getElem? (i := 1220) (by decide +kernel)⟩
theorem lw_p56 : lw_okq (⟨"LeftLacksModel", "draw", "()I"⟩, 20) := ⟨⟨by decide +kernel, by decide +kernel⟩, List.mem_of_getElem? (i := 914) (by decide +kernel), List.mem_of_getElem? (i := 1223) (by decide +kernel), List.mem_of_getElem? (i := 1224) (by decide +kernel)⟩
theorem lw_p57 : lw_okq (⟨"LeftLacksModel", "purseBy", "(III)I"⟩, 20) := ⟨⟨by decide +kernel, by decide +kernel⟩, List.mem_of_getElem? (i := 914) (by decide +kernel), List.mem_of_getElem? (i := 1254) (by decide +kernel), List.mem_of_getElem? (i := 1255) (by decide +kernel)⟩
theorem lw_p58 : lw_okq (⟨"LeftLacksModel", "turns", "(I)V"⟩, 20) := ⟨⟨by decide +kernel, by decide +kernel⟩, List.mem_of_getElem? (i := 914) (by decide +kernel), List.mem_of_getElem? (i := 1262) (by decide +kernel), List.mem_of_getElem? (i := 1263) (by decide +kernel)⟩
theorem lw_p59 : lw_okq (⟨"LeftLacksModel", "behindVisits", "(I)I"⟩, 20) := ⟨⟨by decide +kernel, by decide +kernel⟩, List.mem_of_getElem? (i := 914) (by decide +kernel), List.mem_of_getElem? (i := 1270) (by decide +kernel), List.mem_of_getElem? (i := 1271) (by decide +kernel)⟩
theorem lw_p60 : lw_okq (⟨"LeftLacksModel", "joins", "(I)V"⟩, 20) := ⟨⟨by decide +kernel, by decide +kernel⟩, List.mem_of_getElem? (i := 914) (by decide +kernel), List.mem_of_getElem? (i := 1278) (by decide +kernel), List.mem_of_getElem? (i := 1279) (by decide +kernel)⟩
theorem lw_p61 : lw_okq (⟨"LeftLacksModel", "kindNow", "()I"⟩, 20) := ⟨⟨by decide +kernel, by decide +kernel⟩, List.mem_of_getElem? (i := 914) (by decide +kernel), List.mem_of_getElem? (i := 1290) (by decide +kernel), List.mem_of_getElem? (i := 1291) (by decide +kernel)⟩
theorem lw_p62 : lw_okq (⟨"LeftLacksModel", "sellsBy", "(II)I"⟩, 20) := ⟨⟨by decide +kernel, by decide +kernel⟩, List.mem_of_getElem? (i := 914) (by decide +kernel), List.mem_of_getElem? (i := 1294) (by decide +kernel), List.mem_of_getElem? (i := 1295) (by decide +kernel)⟩
theorem lw_p63 : lw_okq (⟨"LeftLacksModel", "begins", "(I)V"⟩, 20) := ⟨⟨by decide +kernel, by decide +kernel⟩, List.mem_of_getElem? (i := 914) (by decide +kernel), List.mem_of_getElem? (i := 1298) (by decide +kernel), List.mem_of_getElem? (i := 1299) (by decide +kernel)⟩
def lw_privs_4 : List (MethodName × Nat) := [(⟨"LeftLacksModel", "gets", "(II)V"⟩, 20), (⟨"LeftLacksModel", "buys", "(I)V"⟩, 20), (⟨"LeftLacksModel", "hasOther", "(I)Z"⟩, 20), (⟨"LeftLacksModel", "buysOut", "(II)V"⟩, 20), (⟨"LeftLacksModel", "visits", "(I)I"⟩, 20), (⟨"LeftLacksModel", "shopOn", "(II)I"⟩, 20), (⟨"LeftLacksModel", "go", "(I)V"⟩, 20), (⟨"LeftLacksModel", "day", "(Z)V"⟩, 20), (⟨"LeftLacksModel", "draw", "()I"⟩, 20), (⟨"LeftLacksModel", "purseBy", "(III)I"⟩, 20), (⟨"LeftLacksModel", "turns", "(I)V"⟩, 20), (⟨"LeftLacksModel", "behindVisits", "(I)I"⟩, 20), (⟨"LeftLacksModel", "joins", "(I)V"⟩, 20), (⟨"LeftLacksModel", "kindNow", "()I"⟩, 20), (⟨"LeftLacksModel", "sellsBy", "(II)I"⟩, 20), (⟨"LeftLacksModel", "begins", "(I)V"⟩, 20)]
theorem lw_r4 : ∀ q ∈ lw_privs_4, lw_okq q := List.forall_mem_cons.mpr ⟨lw_p48, List.forall_mem_cons.mpr ⟨lw_p49, List.forall_mem_cons.mpr ⟨lw_p50, List.forall_mem_cons.mpr ⟨lw_p51, List.forall_mem_cons.mpr ⟨lw_p52, List.forall_mem_cons.mpr ⟨lw_p53, List.forall_mem_cons.mpr ⟨lw_p54, List.forall_mem_cons.mpr ⟨lw_p55, List.forall_mem_cons.mpr ⟨lw_p56, List.forall_mem_cons.mpr ⟨lw_p57, List.forall_mem_cons.mpr ⟨lw_p58, List.forall_mem_cons.mpr ⟨lw_p59, List.forall_mem_cons.mpr ⟨lw_p60, List.forall_mem_cons.mpr ⟨lw_p61, List.forall_mem_cons.mpr ⟨lw_p62, List.forall_mem_cons.mpr ⟨lw_p63, fun _ h => absurd h List.not_mem_nil⟩⟩⟩⟩⟩⟩⟩⟩⟩⟩⟩⟩⟩⟩⟩⟩
theorem lw_p64 : lw_okq (⟨"LeftLacksModel", "fillsBy", "(II)I"⟩, 20) := ⟨⟨by decide +kernel, by decide +kernel⟩, List.mem_of_getElem? (i := 914) (by decide +kernel), List.mem_of_getElem? (i := 1305) (by decide +kernel), List.mem_of_getElem? (i := 1306) (by decide +kernel)⟩
theorem lw_p65 : lw_okq (⟨"LeftLacksModel", "mNow", "()I"⟩, 20) := ⟨⟨by decide +kernel, by decide +kernel⟩, List.mem_of_getElem? (i := 914) (by decide +kernel), List.mem_of_getElem? (i := 1309) (by decide +kernel), List.mem_of_getElem? (i := 1310) (by decide +kernel)⟩
theorem lw_p66 : lw_okq (⟨"LeftLacksModel", "owesBy", "(II)I"⟩, 20) := ⟨⟨by decide +kernel, by decide +kernel⟩, List.mem_of_getElem? (i := 914) (by decide +kernel), List.mem_of_getElem? (i := 1313) (by decide +kernel), List.mem_of_getElem? (i := 1314) (by decide +kernel)⟩
theorem lw_p67 : lw_okq (⟨"LeftLacksModel", "partsBy", "(II)I"⟩, 20) := ⟨⟨by decide +kernel, by decide +kernel⟩, List.mem_of_getElem? (i := 914) (by decide +kernel), List.mem_of_getElem? (i := 1317) (by decide +kernel), List.mem_of_getElem? (i := 1318) (by decide +kernel)⟩
theorem lw_p68 : lw_okq (⟨"LeftLacksModel", "lacks", "(I)I"⟩, 20) := ⟨⟨by decide +kernel, by decide +kernel⟩, List.mem_of_getElem? (i := 914) (by decide +kernel), List.mem_of_getElem? (i := 1344) (by decide +kernel), List.mem_of_getElem? (i := 1345) (by decide +kernel)⟩
theorem lw_p69 : lw_okq (⟨"LeftLacksModel", "leaves", "(III)Z"⟩, 20) := ⟨⟨by decide +kernel, by decide +kernel⟩, List.mem_of_getElem? (i := 914) (by decide +kernel), List.mem_of_getElem? (i := 1356) (by decide +kernel), List.mem_of_getElem? (i := 1357) (by decide +kernel)⟩
def lw_privs_5 : List (MethodName × Nat) := [(⟨"LeftLacksModel", "fillsBy", "(II)I"⟩, 20), (⟨"LeftLacksModel", "mNow", "()I"⟩, 20), (⟨"LeftLacksModel", "owesBy", "(II)I"⟩, 20), (⟨"LeftLacksModel", "partsBy", "(II)I"⟩, 20), (⟨"LeftLacksModel", "lacks", "(I)I"⟩, 20), (⟨"LeftLacksModel", "leaves", "(III)Z"⟩, 20)]
theorem lw_r5 : ∀ q ∈ lw_privs_5, lw_okq q := List.forall_mem_cons.mpr ⟨lw_p64, List.forall_mem_cons.mpr ⟨lw_p65, List.forall_mem_cons.mpr ⟨lw_p66, List.forall_mem_cons.mpr ⟨lw_p67, List.forall_mem_cons.mpr ⟨lw_p68, List.forall_mem_cons.mpr ⟨lw_p69, fun _ h => absurd h List.not_mem_nil⟩⟩⟩⟩⟩⟩
def lw_privs : List (MethodName × Nat) := lw_privs_1 ++ (lw_privs_2 ++ (lw_privs_3 ++ (lw_privs_4 ++ (lw_privs_5))))
def lw_tbl : List Cond := k2_sels lw_privs ++ tables_1
theorem lw_privs_ok : ∀ q ∈ lw_privs, lw_okq q := by
  show ∀ q ∈ lw_privs_1 ++ (lw_privs_2 ++ (lw_privs_3 ++ (lw_privs_4 ++ (lw_privs_5)))), lw_okq q
  exact List.forall_mem_append.mpr ⟨lw_r1, List.forall_mem_append.mpr ⟨lw_r2, List.forall_mem_append.mpr ⟨lw_r3, List.forall_mem_append.mpr ⟨lw_r4, lw_r5⟩⟩⟩⟩
end
section
/-! ===== BEGIN printed: names, fields, word lists, decode rows ===== -/
def RX0 : String := "LeftLacks$Customer"
def TX0 : u_T := fun k => match k with
  | 0 => ("LeftLacks$Customer", "wants", "I", false)
  | 1 => ("LeftLacks$Customer", "steps", "I", false)
  | 2 => ("LeftLacks$Customer", "from", "I", false)
  | _ => ("LeftLacks$Customer", "coin", "I", false)
def tyX0 : Nat → FieldType := fun k => match k with
  | 0 => .int
  | 1 => .int
  | 2 => .int
  | _ => .int
abbrev wsX00 : List Cond := u_ws RX0 TX0 4
theorem nmX0 : ∀ a, a < 4 → ∀ b, b < 4 → a ≠ b → (TX0 a).2.1 ≠ (TX0 b).2.1 := by decide +kernel
theorem tyX0_ok : ∀ k, k < 4 → parseFieldDescriptor (TX0 k).2.2.1 = some (tyX0 k) := by decide +kernel
abbrev cX0_init : ByteArray := prog_2_method_1_code
def yX0_init : MethodName := ⟨RX0, "<init>", "()V"⟩
abbrev cX0_copyFrom : ByteArray := prog_2_method_2_code
def yX0_copyFrom : MethodName := ⟨RX0, "copyFrom", "(LLeftLacks$Customer;)V"⟩
def RX1 : String := "LeftLacks$Formula"
def TX1 : u_T := fun k => match k with
  | 0 => ("LeftLacks$Formula", "codes", "[I", true)
  | 1 => ("LeftLacks$Formula", "length", "I", false)
  | _ => ("LeftLacks$Formula", "stack", "[I", true)
def tyX1 : Nat → FieldType := fun k => match k with
  | 0 => .array .int
  | 1 => .int
  | _ => .array .int
abbrev wsX10 : List Cond := u_ws RX1 TX1 3
theorem nmX1 : ∀ a, a < 3 → ∀ b, b < 3 → a ≠ b → (TX1 a).2.1 ≠ (TX1 b).2.1 := by decide +kernel
theorem tyX1_ok : ∀ k, k < 3 → parseFieldDescriptor (TX1 k).2.2.1 = some (tyX1 k) := by decide +kernel
abbrev cX1_init : ByteArray := prog_3_method_1_code
def yX1_init : MethodName := ⟨RX1, "<init>", "()V"⟩
abbrev cX1_isTold : ByteArray := prog_3_method_2_code
def yX1_isTold : MethodName := ⟨RX1, "isTold", "()Z"⟩
abbrev cX1_take : ByteArray := prog_3_method_3_code
def yX1_take : MethodName := ⟨RX1, "take", "([II)V"⟩
abbrev cX1_value : ByteArray := prog_3_method_4_code
def yX1_value : MethodName := ⟨RX1, "value", "(IIII)I"⟩
abbrev cX1_named : ByteArray := prog_3_method_5_code
def yX1_named : MethodName := ⟨RX1, "named", "(IIIII)I"⟩
abbrev cX1_worked : ByteArray := prog_3_method_6_code
def yX1_worked : MethodName := ⟨RX1, "worked", "(III)I"⟩
def RX2 : String := "LeftLacks$Reader"
def TX2 : u_T := fun k => match k with
  | 0 => ("LeftLacks$Reader", "codes", "[I", true)
  | 1 => ("LeftLacks$Reader", "codeCount", "I", false)
  | 2 => ("LeftLacks$Reader", "signs", "[I", true)
  | 3 => ("LeftLacks$Reader", "signCount", "I", false)
  | 4 => ("LeftLacks$Reader", "open", "I", false)
  | 5 => ("LeftLacks$Reader", "brackets", "I", false)
  | 6 => ("LeftLacks$Reader", "partDue", "Z", false)
  | 7 => ("LeftLacks$Reader", "digits", "I", false)
  | _ => ("LeftLacks$Reader", "names", "Ljava/lang/String;", false)
def tyX2 : Nat → FieldType := fun k => match k with
  | 0 => .array .int
  | 1 => .int
  | 2 => .array .int
  | 3 => .int
  | 4 => .int
  | 5 => .int
  | 6 => .boolean
  | 7 => .int
  | _ => .object "java/lang/String"
abbrev wsX20 : List Cond := u_ws RX2 TX2 9
theorem nmX2 : ∀ a, a < 9 → ∀ b, b < 9 → a ≠ b → (TX2 a).2.1 ≠ (TX2 b).2.1 := by decide +kernel
theorem tyX2_ok : ∀ k, k < 9 → parseFieldDescriptor (TX2 k).2.2.1 = some (tyX2 k) := by decide +kernel
abbrev cX2_init : ByteArray := prog_4_method_1_code
def yX2_init : MethodName := ⟨RX2, "<init>", "()V"⟩
abbrev cX2_faultIn : ByteArray := prog_4_method_2_code
def yX2_faultIn : MethodName := ⟨RX2, "faultIn", "([III)I"⟩
abbrev cX2_takes : ByteArray := prog_4_method_3_code
def yX2_takes : MethodName := ⟨RX2, "takes", "(I)Z"⟩
abbrev cX2_takesDigit : ByteArray := prog_4_method_4_code
def yX2_takesDigit : MethodName := ⟨RX2, "takesDigit", "(I)Z"⟩
abbrev cX2_takesName : ByteArray := prog_4_method_5_code
def yX2_takesName : MethodName := ⟨RX2, "takesName", "(I)Z"⟩
abbrev cX2_opens : ByteArray := prog_4_method_6_code
def yX2_opens : MethodName := ⟨RX2, "opens", "(I)Z"⟩
abbrev cX2_closes : ByteArray := prog_4_method_7_code
def yX2_closes : MethodName := ⟨RX2, "closes", "()Z"⟩
abbrev cX2_takesSign : ByteArray := prog_4_method_8_code
def yX2_takesSign : MethodName := ⟨RX2, "takesSign", "(I)Z"⟩
abbrev cX2_release : ByteArray := prog_4_method_9_code
def yX2_release : MethodName := ⟨RX2, "release", "(I)V"⟩
abbrev cX2_emit : ByteArray := prog_4_method_10_code
def yX2_emit : MethodName := ⟨RX2, "emit", "(I)V"⟩
abbrev cX2_push : ByteArray := prog_4_method_11_code
def yX2_push : MethodName := ⟨RX2, "push", "(I)V"⟩
abbrev cX2_levelOf : ByteArray := prog_4_method_12_code
def yX2_levelOf : MethodName := ⟨RX2, "levelOf", "(I)I"⟩
def RX3 : String := "LeftLacks$Search"
def TX3 : u_T := fun k => match k with
  | 0 => ("LeftLacks$Search", "sets", "I", false)
  | 1 => ("LeftLacks$Search", "least", "I", false)
  | 2 => ("LeftLacks$Search", "surely", "I", false)
  | 3 => ("LeftLacks$Search", "maybe", "I", false)
  | 4 => ("LeftLacks$Search", "place", "I", false)
  | 5 => ("LeftLacks$Search", "left", "[I", true)
  | _ => ("LeftLacks$Search", "stocks", "[I", true)
def tyX3 : Nat → FieldType := fun k => match k with
  | 0 => .int
  | 1 => .int
  | 2 => .int
  | 3 => .int
  | 4 => .int
  | 5 => .array .int
  | _ => .array .int
abbrev wsX30 : List Cond := u_ws RX3 TX3 7
theorem nmX3 : ∀ a, a < 7 → ∀ b, b < 7 → a ≠ b → (TX3 a).2.1 ≠ (TX3 b).2.1 := by decide +kernel
theorem tyX3_ok : ∀ k, k < 7 → parseFieldDescriptor (TX3 k).2.2.1 = some (tyX3 k) := by decide +kernel
abbrev cX3_init : ByteArray := prog_5_method_1_code
def yX3_init : MethodName := ⟨RX3, "<init>", "()V"⟩
abbrev cX3_tryAll : ByteArray := prog_5_method_2_code
def yX3_tryAll : MethodName := ⟨RX3, "tryAll", "(LLeftLacks$World;I[I)V"⟩
abbrev cX3_tryFrom : ByteArray := prog_5_method_3_code
def yX3_tryFrom : MethodName := ⟨RX3, "tryFrom", "(LLeftLacks$World;II)V"⟩
abbrev cX3_startOf : ByteArray := prog_5_method_4_code
def yX3_startOf : MethodName := ⟨RX3, "startOf", "(II)I"⟩
abbrev cX3_judgeSet : ByteArray := prog_5_method_5_code
def yX3_judgeSet : MethodName := ⟨RX3, "judgeSet", "(LLeftLacks$World;I)V"⟩
def RX4 : String := "LeftLacks$Sheet"
def TX4 : u_T := fun k => match k with
  | 0 => ("LeftLacks$Sheet", "bits", "I", false)
  | 1 => ("LeftLacks$Sheet", "length", "I", false)
  | _ => ("LeftLacks$Sheet", "numbers", "[I", true)
def tyX4 : Nat → FieldType := fun k => match k with
  | 0 => .int
  | 1 => .int
  | _ => .array .int
abbrev wsX40 : List Cond := u_ws RX4 TX4 3
theorem nmX4 : ∀ a, a < 3 → ∀ b, b < 3 → a ≠ b → (TX4 a).2.1 ≠ (TX4 b).2.1 := by decide +kernel
theorem tyX4_ok : ∀ k, k < 3 → parseFieldDescriptor (TX4 k).2.2.1 = some (tyX4 k) := by decide +kernel
abbrev cX4_init : ByteArray := prog_6_method_1_code
def yX4_init : MethodName := ⟨RX4, "<init>", "()V"⟩
abbrev cX4_isMissing : ByteArray := prog_6_method_2_code
def yX4_isMissing : MethodName := ⟨RX4, "isMissing", "()Z"⟩
abbrev cX4_lay : ByteArray := prog_6_method_3_code
def yX4_lay : MethodName := ⟨RX4, "lay", "(II)V"⟩
abbrev cX4_write : ByteArray := prog_6_method_4_code
def yX4_write : MethodName := ⟨RX4, "write", "(II)V"⟩
abbrev cX4_holds : ByteArray := prog_6_method_5_code
def yX4_holds : MethodName := ⟨RX4, "holds", "(II)Z"⟩
def RX5 : String := "LeftLacks$Shop"
def TX5 : u_T := fun k => match k with
  | 0 => ("LeftLacks$Shop", "kind", "I", false)
  | 1 => ("LeftLacks$Shop", "m", "I", false)
  | 2 => ("LeftLacks$Shop", "purse", "I", false)
  | 3 => ("LeftLacks$Shop", "keeps", "[I", true)
  | 4 => ("LeftLacks$Shop", "stock", "[I", true)
  | _ => ("LeftLacks$Shop", "had", "I", false)
def tyX5 : Nat → FieldType := fun k => match k with
  | 0 => .int
  | 1 => .int
  | 2 => .int
  | 3 => .array .int
  | 4 => .array .int
  | _ => .int
abbrev wsX50 : List Cond := u_ws RX5 TX5 6
theorem nmX5 : ∀ a, a < 6 → ∀ b, b < 6 → a ≠ b → (TX5 a).2.1 ≠ (TX5 b).2.1 := by decide +kernel
theorem tyX5_ok : ∀ k, k < 6 → parseFieldDescriptor (TX5 k).2.2.1 = some (tyX5 k) := by decide +kernel
abbrev cX5_init : ByteArray := prog_7_method_1_code
def yX5_init : MethodName := ⟨RX5, "<init>", "()V"⟩
abbrev cX5_open : ByteArray := prog_7_method_2_code
def yX5_open : MethodName := ⟨RX5, "open", "(II)V"⟩
abbrev cX5_copyFrom : ByteArray := prog_7_method_3_code
def yX5_copyFrom : MethodName := ⟨RX5, "copyFrom", "(LLeftLacks$Shop;)V"⟩
abbrev cX5_change : ByteArray := prog_7_method_4_code
def yX5_change : MethodName := ⟨RX5, "change", "(II)V"⟩
abbrev cX5_earn : ByteArray := prog_7_method_5_code
def yX5_earn : MethodName := ⟨RX5, "earn", "(I)V"⟩
abbrev cX5_keepOnly : ByteArray := prog_7_method_6_code
def yX5_keepOnly : MethodName := ⟨RX5, "keepOnly", "(I)V"⟩
abbrev cX5_join : ByteArray := prog_7_method_7_code
def yX5_join : MethodName := ⟨RX5, "join", "(LLeftLacks$Shop;)V"⟩
abbrev cX5_things : ByteArray := prog_7_method_8_code
def yX5_things : MethodName := ⟨RX5, "things", "()I"⟩
abbrev cX5_goodsHere : ByteArray := prog_7_method_9_code
def yX5_goodsHere : MethodName := ⟨RX5, "goodsHere", "()I"⟩
def RX6 : String := "LeftLacks$Speaker"
def TX6 : u_T := fun k => match k with
  | 0 => ("LeftLacks$Speaker", "trace", "[I", true)
  | 1 => ("LeftLacks$Speaker", "traceCount", "I", false)
  | 2 => ("LeftLacks$Speaker", "parted", "Z", false)
  | 3 => ("LeftLacks$Speaker", "kind", "I", false)
  | 4 => ("LeftLacks$Speaker", "m", "I", false)
  | _ => ("LeftLacks$Speaker", "k", "I", false)
def tyX6 : Nat → FieldType := fun k => match k with
  | 0 => .array .int
  | 1 => .int
  | 2 => .boolean
  | 3 => .int
  | 4 => .int
  | _ => .int
abbrev wsX60 : List Cond := u_ws RX6 TX6 6
theorem nmX6 : ∀ a, a < 6 → ∀ b, b < 6 → a ≠ b → (TX6 a).2.1 ≠ (TX6 b).2.1 := by decide +kernel
theorem tyX6_ok : ∀ k, k < 6 → parseFieldDescriptor (TX6 k).2.2.1 = some (tyX6 k) := by decide +kernel
abbrev cX6_init : ByteArray := prog_8_method_1_code
def yX6_init : MethodName := ⟨RX6, "<init>", "()V"⟩
abbrev cX6_speak : ByteArray := prog_8_method_2_code
def yX6_speak : MethodName := ⟨RX6, "speak", "(LLeftLacks$Shop;III)I"⟩
abbrev cX6_say : ByteArray := prog_8_method_3_code
def yX6_say : MethodName := ⟨RX6, "say", "(IIII)I"⟩
abbrev cX6_part : ByteArray := prog_8_method_4_code
def yX6_part : MethodName := ⟨RX6, "part", "(I)I"⟩
abbrev cX6_partAndFill : ByteArray := prog_8_method_5_code
def yX6_partAndFill : MethodName := ⟨RX6, "partAndFill", "(III)I"⟩
abbrev cX6_note : ByteArray := prog_8_method_6_code
def yX6_note : MethodName := ⟨RX6, "note", "(I)V"⟩
abbrev cX6_ownerOf : ByteArray := prog_8_method_7_code
def yX6_ownerOf : MethodName := ⟨RX6, "ownerOf", "(II)I"⟩
def RX7 : String := "LeftLacks$World"
def TX7 : u_T := fun k => match k with
  | 0 => ("LeftLacks$World", "costs", "[I", true)
  | 1 => ("LeftLacks$World", "ring", "I", false)
  | 2 => ("LeftLacks$World", "law", "I", false)
  | 3 => ("LeftLacks$World", "shops", "[LLeftLacks$Shop;", true)
  | 4 => ("LeftLacks$World", "shopCount", "I", false)
  | 5 => ("LeftLacks$World", "visitors", "[LLeftLacks$Customer;", true)
  | 6 => ("LeftLacks$World", "customerCount", "I", false)
  | 7 => ("LeftLacks$World", "days", "I", false)
  | 8 => ("LeftLacks$World", "sales", "I", false)
  | 9 => ("LeftLacks$World", "z", "I", false)
  | 10 => ("LeftLacks$World", "texts", "[LLeftLacks$Formula;", true)
  | 11 => ("LeftLacks$World", "tape", "[I", true)
  | 12 => ("LeftLacks$World", "tapeCount", "I", false)
  | 13 => ("LeftLacks$World", "waiting", "[I", true)
  | _ => ("LeftLacks$World", "waitCount", "I", false)
def tyX7 : Nat → FieldType := fun k => match k with
  | 0 => .array .int
  | 1 => .int
  | 2 => .int
  | 3 => .array (.object "LeftLacks$Shop")
  | 4 => .int
  | 5 => .array (.object "LeftLacks$Customer")
  | 6 => .int
  | 7 => .int
  | 8 => .int
  | 9 => .int
  | 10 => .array (.object "LeftLacks$Formula")
  | 11 => .array .int
  | 12 => .int
  | 13 => .array .int
  | _ => .int
abbrev wsX70 : List Cond := u_ws RX7 TX7 15
theorem nmX7 : ∀ a, a < 15 → ∀ b, b < 15 → a ≠ b → (TX7 a).2.1 ≠ (TX7 b).2.1 := by decide +kernel
theorem tyX7_ok : ∀ k, k < 15 → parseFieldDescriptor (TX7 k).2.2.1 = some (tyX7 k) := by decide +kernel
abbrev cX7_init : ByteArray := prog_9_method_1_code
def yX7_init : MethodName := ⟨RX7, "<init>", "()V"⟩
abbrev cX7_copyFrom : ByteArray := prog_9_method_2_code
def yX7_copyFrom : MethodName := ⟨RX7, "copyFrom", "(LLeftLacks$World;)V"⟩
abbrev cX7_hasShop : ByteArray := prog_9_method_3_code
def yX7_hasShop : MethodName := ⟨RX7, "hasShop", "(I)Z"⟩
abbrev cX7_hasCustomer : ByteArray := prog_9_method_4_code
def yX7_hasCustomer : MethodName := ⟨RX7, "hasCustomer", "(I)Z"⟩
abbrev cX7_welcome : ByteArray := prog_9_method_5_code
def yX7_welcome : MethodName := ⟨RX7, "welcome", "(III)V"⟩
abbrev cX7_factOf : ByteArray := prog_9_method_6_code
def yX7_factOf : MethodName := ⟨RX7, "factOf", "(II)I"⟩
abbrev cX7_leftOf : ByteArray := prog_9_method_7_code
def yX7_leftOf : MethodName := ⟨RX7, "leftOf", "(I)I"⟩
abbrev cX7_stockOf : ByteArray := prog_9_method_8_code
def yX7_stockOf : MethodName := ⟨RX7, "stockOf", "(II)I"⟩
abbrev cX7_maySell : ByteArray := prog_9_method_9_code
def yX7_maySell : MethodName := ⟨RX7, "maySell", "(II)Z"⟩
abbrev cX7_mayGoods : ByteArray := prog_9_method_10_code
def yX7_mayGoods : MethodName := ⟨RX7, "mayGoods", "(I)I"⟩
abbrev cX7_fillOf : ByteArray := prog_9_method_11_code
def yX7_fillOf : MethodName := ⟨RX7, "fillOf", "(II)I"⟩
abbrev cX7_priceOf : ByteArray := prog_9_method_12_code
def yX7_priceOf : MethodName := ⟨RX7, "priceOf", "(II)I"⟩
abbrev cX7_passMorning : ByteArray := prog_9_method_13_code
def yX7_passMorning : MethodName := ⟨RX7, "passMorning", "()V"⟩
abbrev cX7_fillShop : ByteArray := prog_9_method_14_code
def yX7_fillShop : MethodName := ⟨RX7, "fillShop", "(I)V"⟩
abbrev cX7_goodToBuy : ByteArray := prog_9_method_15_code
def yX7_goodToBuy : MethodName := ⟨RX7, "goodToBuy", "(I)I"⟩
abbrev cX7_buyOut : ByteArray := prog_9_method_16_code
def yX7_buyOut : MethodName := ⟨RX7, "buyOut", "(III)V"⟩
abbrev cX7_placeOf : ByteArray := prog_9_method_17_code
def yX7_placeOf : MethodName := ⟨RX7, "placeOf", "(II)I"⟩
abbrev cX7_goAlong : ByteArray := prog_9_method_18_code
def yX7_goAlong : MethodName := ⟨RX7, "goAlong", "(I)I"⟩
abbrev cX7_allGoAlong : ByteArray := prog_9_method_19_code
def yX7_allGoAlong : MethodName := ⟨RX7, "allGoAlong", "()V"⟩
abbrev cX7_pass : ByteArray := prog_9_method_20_code
def yX7_pass : MethodName := ⟨RX7, "pass", "(IZ)V"⟩
abbrev cX7_draw : ByteArray := prog_9_method_21_code
def yX7_draw : MethodName := ⟨RX7, "draw", "()I"⟩
abbrev cX7_turnFrom : ByteArray := prog_9_method_22_code
def yX7_turnFrom : MethodName := ⟨RX7, "turnFrom", "(LLeftLacks$World;I)V"⟩
abbrev cX7_joinNext : ByteArray := prog_9_method_23_code
def yX7_joinNext : MethodName := ⟨RX7, "joinNext", "(I)V"⟩
abbrev cX7_things : ByteArray := prog_9_method_24_code
def yX7_things : MethodName := ⟨RX7, "things", "()I"⟩
abbrev cX7_purses : ByteArray := prog_9_method_25_code
def yX7_purses : MethodName := ⟨RX7, "purses", "()I"⟩
def RX8 : String := "LeftLacks"
def TX8 : u_T := fun k => match k with
  | 0 => ("LeftLacks", "now", "LLeftLacks$World;", true)
  | 1 => ("LeftLacks", "kept", "LLeftLacks$World;", true)
  | 2 => ("LeftLacks", "trial", "LLeftLacks$World;", true)
  | 3 => ("LeftLacks", "sheets", "[LLeftLacks$Sheet;", true)
  | 4 => ("LeftLacks", "reader", "LLeftLacks$Reader;", true)
  | 5 => ("LeftLacks", "speaker", "LLeftLacks$Speaker;", true)
  | 6 => ("LeftLacks", "search", "LLeftLacks$Search;", true)
  | 7 => ("LeftLacks", "errors", "[I", true)
  | _ => ("LeftLacks", "images", "I", false)
def tyX8 : Nat → FieldType := fun k => match k with
  | 0 => .object "LeftLacks$World"
  | 1 => .object "LeftLacks$World"
  | 2 => .object "LeftLacks$World"
  | 3 => .array (.object "LeftLacks$Sheet")
  | 4 => .object "LeftLacks$Reader"
  | 5 => .object "LeftLacks$Speaker"
  | 6 => .object "LeftLacks$Search"
  | 7 => .array .int
  | _ => .int
abbrev wsX80 : List Cond := u_ws RX8 TX8 9
theorem nmX8 : ∀ a, a < 9 → ∀ b, b < 9 → a ≠ b → (TX8 a).2.1 ≠ (TX8 b).2.1 := by decide +kernel
theorem tyX8_ok : ∀ k, k < 9 → parseFieldDescriptor (TX8 k).2.2.1 = some (tyX8 k) := by decide +kernel
abbrev cX8_init : ByteArray := prog_1_method_1_code
def yX8_init : MethodName := ⟨RX8, "<init>", "()V"⟩
abbrev cX8_cost : ByteArray := prog_1_method_2_code
def yX8_cost : MethodName := ⟨RX8, "cost", "(II)I"⟩
abbrev cX8_rule : ByteArray := prog_1_method_3_code
def yX8_rule : MethodName := ⟨RX8, "rule", "(II)I"⟩
abbrev cX8_shop : ByteArray := prog_1_method_4_code
def yX8_shop : MethodName := ⟨RX8, "shop", "(I)I"⟩
abbrev cX8_shopIs : ByteArray := prog_1_method_5_code
def yX8_shopIs : MethodName := ⟨RX8, "shopIs", "(II)I"⟩
abbrev cX8_as : ByteArray := prog_1_method_6_code
def yX8_as : MethodName := ⟨RX8, "as", "(II)I"⟩
abbrev cX8_set : ByteArray := prog_1_method_7_code
def yX8_set : MethodName := ⟨RX8, "set", "(III)I"⟩
abbrev cX8_price : ByteArray := prog_1_method_8_code
def yX8_price : MethodName := ⟨RX8, "price", "(II)I"⟩
abbrev cX8_fills : ByteArray := prog_1_method_9_code
def yX8_fills : MethodName := ⟨RX8, "fills", "(II)I"⟩
abbrev cX8_customer : ByteArray := prog_1_method_10_code
def yX8_customer : MethodName := ⟨RX8, "customer", "(III)I"⟩
abbrev cX8_customerIs : ByteArray := prog_1_method_11_code
def yX8_customerIs : MethodName := ⟨RX8, "customerIs", "(II)I"⟩
abbrev cX8_leave : ByteArray := prog_1_method_12_code
def yX8_leave : MethodName := ⟨RX8, "leave", "()I"⟩
abbrev cX8_feed : ByteArray := prog_1_method_13_code
def yX8_feed : MethodName := ⟨RX8, "feed", "(JI)I"⟩
abbrev cX8_text : ByteArray := prog_1_method_14_code
def yX8_text : MethodName := ⟨RX8, "text", "(I)I"⟩
abbrev cX8_untell : ByteArray := prog_1_method_15_code
def yX8_untell : MethodName := ⟨RX8, "untell", "(I)I"⟩
abbrev cX8_morning : ByteArray := prog_1_method_16_code
def yX8_morning : MethodName := ⟨RX8, "morning", "()I"⟩
abbrev cX8_visit : ByteArray := prog_1_method_17_code
def yX8_visit : MethodName := ⟨RX8, "visit", "(I)I"⟩
abbrev cX8_days : ByteArray := prog_1_method_18_code
def yX8_days : MethodName := ⟨RX8, "days", "(I)I"⟩
abbrev cX8_loose : ByteArray := prog_1_method_19_code
def yX8_loose : MethodName := ⟨RX8, "loose", "(I)I"⟩
abbrev cX8_seed : ByteArray := prog_1_method_20_code
def yX8_seed : MethodName := ⟨RX8, "seed", "(I)I"⟩
abbrev cX8_then : ByteArray := prog_1_method_21_code
def yX8_then : MethodName := ⟨RX8, "then", "(III)I"⟩
abbrev cX8_keep : ByteArray := prog_1_method_22_code
def yX8_keep : MethodName := ⟨RX8, "keep", "(III)I"⟩
abbrev cX8_range : ByteArray := prog_1_method_23_code
def yX8_range : MethodName := ⟨RX8, "range", "(II)I"⟩
abbrev cX8_turn : ByteArray := prog_1_method_24_code
def yX8_turn : MethodName := ⟨RX8, "turn", "(II)I"⟩
abbrev cX8_out : ByteArray := prog_1_method_25_code
def yX8_out : MethodName := ⟨RX8, "out", "(II)I"⟩
abbrev cX8_joined : ByteArray := prog_1_method_26_code
def yX8_joined : MethodName := ⟨RX8, "joined", "(II)I"⟩
abbrev cX8_walk : ByteArray := prog_1_method_27_code
def yX8_walk : MethodName := ⟨RX8, "walk", "(I)I"⟩
abbrev cX8_voice : ByteArray := prog_1_method_28_code
def yX8_voice : MethodName := ⟨RX8, "voice", "(III)I"⟩
abbrev cX8_body : ByteArray := prog_1_method_29_code
def yX8_body : MethodName := ⟨RX8, "body", "(I)I"⟩
abbrev cX8_sheet : ByteArray := prog_1_method_30_code
def yX8_sheet : MethodName := ⟨RX8, "sheet", "(III)I"⟩
abbrev cX8_put : ByteArray := prog_1_method_31_code
def yX8_put : MethodName := ⟨RX8, "put", "(III)I"⟩
abbrev cX8_move : ByteArray := prog_1_method_32_code
def yX8_move : MethodName := ⟨RX8, "move", "(IIIII)I"⟩
abbrev cX8_customers : ByteArray := prog_1_method_33_code
def yX8_customers : MethodName := ⟨RX8, "customers", "(I)I"⟩
abbrev cX8_judge : ByteArray := prog_1_method_34_code
def yX8_judge : MethodName := ⟨RX8, "judge", "(I)I"⟩
abbrev cX8_came : ByteArray := prog_1_method_35_code
def yX8_came : MethodName := ⟨RX8, "came", "(III)I"⟩
abbrev cX8_image : ByteArray := prog_1_method_36_code
def yX8_image : MethodName := ⟨RX8, "image", "()I"⟩
abbrev cX8_restore : ByteArray := prog_1_method_37_code
def yX8_restore : MethodName := ⟨RX8, "restore", "()I"⟩
abbrev cX8_tell : ByteArray := prog_1_method_38_code
def yX8_tell : MethodName := ⟨RX8, "tell", "(I)I"⟩
abbrev cX8_check : ByteArray := prog_1_method_39_code
def yX8_check : MethodName := ⟨RX8, "check", "()I"⟩
abbrev cX8_count : ByteArray := prog_1_method_40_code
def yX8_count : MethodName := ⟨RX8, "count", "(I)I"⟩
abbrev cX8_told : ByteArray := prog_1_method_41_code
def yX8_told : MethodName := ⟨RX8, "told", "(I)I"⟩
abbrev cX8_error : ByteArray := prog_1_method_42_code
def yX8_error : MethodName := ⟨RX8, "error", "(I)I"⟩
abbrev cX8_daysRefusal : ByteArray := prog_1_method_43_code
def yX8_daysRefusal : MethodName := ⟨RX8, "daysRefusal", "(I)I"⟩
abbrev cX8_sheetRefusal : ByteArray := prog_1_method_44_code
def yX8_sheetRefusal : MethodName := ⟨RX8, "sheetRefusal", "(I)I"⟩
abbrev cX8_within : ByteArray := prog_1_method_45_code
def yX8_within : MethodName := ⟨RX8, "within", "(III)Z"⟩
abbrev cX8_hold : ByteArray := prog_1_method_46_code
def yX8_hold : MethodName := ⟨RX8, "hold", "(III)I"⟩
abbrev cX8_isGood : ByteArray := prog_1_method_47_code
def yX8_isGood : MethodName := ⟨RX8, "isGood", "(I)Z"⟩
abbrev cX8_isUse : ByteArray := prog_1_method_48_code
def yX8_isUse : MethodName := ⟨RX8, "isUse", "(I)Z"⟩
abbrev cX8_isSheet : ByteArray := prog_1_method_49_code
def yX8_isSheet : MethodName := ⟨RX8, "isSheet", "(I)Z"⟩
abbrev cX8_isCustomer : ByteArray := prog_1_method_50_code
def yX8_isCustomer : MethodName := ⟨RX8, "isCustomer", "(III)Z"⟩
abbrev cX8_isUnder : ByteArray := prog_1_method_51_code
def yX8_isUnder : MethodName := ⟨RX8, "isUnder", "(II)Z"⟩
abbrev cX8_mostOf : ByteArray := prog_1_method_52_code
def yX8_mostOf : MethodName := ⟨RX8, "mostOf", "(I)I"⟩
def RX9 : String := "LeftLacksModel"
def TX9 : u_T := fun k => match k with
  | 0 => ("LeftLacksModel", "s", "[I", true)
  | 1 => ("LeftLacksModel", "kept", "[I", true)
  | 2 => ("LeftLacksModel", "put", "[I", true)
  | 3 => ("LeftLacksModel", "images", "I", false)
  | 4 => ("LeftLacksModel", "errors", "[I", true)
  | 5 => ("LeftLacksModel", "at", "I", false)
  | 6 => ("LeftLacksModel", "open", "I", false)
  | 7 => ("LeftLacksModel", "steps", "I", false)
  | 8 => ("LeftLacksModel", "use", "I", false)
  | 9 => ("LeftLacksModel", "step", "[I", true)
  | 10 => ("LeftLacksModel", "named", "[I", true)
  | 11 => ("LeftLacksModel", "pile", "[I", true)
  | 12 => ("LeftLacksModel", "trace", "[I", true)
  | 13 => ("LeftLacksModel", "traced", "I", false)
  | 14 => ("LeftLacksModel", "speaks", "I", false)
  | 15 => ("LeftLacksModel", "isParted", "Z", false)
  | 16 => ("LeftLacksModel", "bits", "[I", true)
  | 17 => ("LeftLacksModel", "sizes", "[I", true)
  | 18 => ("LeftLacksModel", "number", "[I", true)
  | _ => ("LeftLacksModel", "aside", "[I", true)
def tyX9 : Nat → FieldType := fun k => match k with
  | 0 => .array .int
  | 1 => .array .int
  | 2 => .array .int
  | 3 => .int
  | 4 => .array .int
  | 5 => .int
  | 6 => .int
  | 7 => .int
  | 8 => .int
  | 9 => .array .int
  | 10 => .array .int
  | 11 => .array .int
  | 12 => .array .int
  | 13 => .int
  | 14 => .int
  | 15 => .boolean
  | 16 => .array .int
  | 17 => .array .int
  | 18 => .array .int
  | _ => .array .int
abbrev wsX90 : List Cond := u_ws RX9 TX9 20
theorem nmX9 : ∀ a, a < 20 → ∀ b, b < 20 → a ≠ b → (TX9 a).2.1 ≠ (TX9 b).2.1 := by decide +kernel
theorem tyX9_ok : ∀ k, k < 20 → parseFieldDescriptor (TX9 k).2.2.1 = some (tyX9 k) := by decide +kernel
abbrev cX9_init : ByteArray := prog_11_method_1_code
def yX9_init : MethodName := ⟨RX9, "<init>", "()V"⟩
abbrev cX9_error : ByteArray := prog_11_method_2_code
def yX9_error : MethodName := ⟨RX9, "error", "(I)I"⟩
abbrev cX9_in : ByteArray := prog_11_method_3_code
def yX9_in : MethodName := ⟨RX9, "in", "(III)Z"⟩
abbrev cX9_held : ByteArray := prog_11_method_4_code
def yX9_held : MethodName := ⟨RX9, "held", "(III)I"⟩
abbrev cX9_carry : ByteArray := prog_11_method_5_code
def yX9_carry : MethodName := ⟨RX9, "carry", "([I[I)V"⟩
abbrev cX9_isShop : ByteArray := prog_11_method_6_code
def yX9_isShop : MethodName := ⟨RX9, "isShop", "(I)Z"⟩
abbrev cX9_isGood : ByteArray := prog_11_method_7_code
def yX9_isGood : MethodName := ⟨RX9, "isGood", "(I)Z"⟩
abbrev cX9_isCustomer : ByteArray := prog_11_method_8_code
def yX9_isCustomer : MethodName := ⟨RX9, "isCustomer", "(I)Z"⟩
abbrev cX9_its : ByteArray := prog_11_method_9_code
def yX9_its : MethodName := ⟨RX9, "its", "(II)I"⟩
abbrev cX9_lays1 : ByteArray := prog_11_method_10_code
def yX9_lays1 : MethodName := ⟨RX9, "lays1", "(III)V"⟩
abbrev cX9_of : ByteArray := prog_11_method_11_code
def yX9_of : MethodName := ⟨RX9, "of", "(II)I"⟩
abbrev cX9_left : ByteArray := prog_11_method_12_code
def yX9_left : MethodName := ⟨RX9, "left", "(I)I"⟩
abbrev cX9_lacks1 : ByteArray := prog_11_method_13_code
def yX9_lacks1 : MethodName := ⟨RX9, "lacks1", "(III)Z"⟩
abbrev cX9_may : ByteArray := prog_11_method_14_code
def yX9_may : MethodName := ⟨RX9, "may", "(II)Z"⟩
abbrev cX9_maySell : ByteArray := prog_11_method_15_code
def yX9_maySell : MethodName := ⟨RX9, "maySell", "(I)I"⟩
abbrev cX9_cost : ByteArray := prog_11_method_16_code
def yX9_cost : MethodName := ⟨RX9, "cost", "(II)I"⟩
abbrev cX9_rule : ByteArray := prog_11_method_17_code
def yX9_rule : MethodName := ⟨RX9, "rule", "(II)I"⟩
abbrev cX9_shop : ByteArray := prog_11_method_18_code
def yX9_shop : MethodName := ⟨RX9, "shop", "(I)I"⟩
abbrev cX9_toldShop : ByteArray := prog_11_method_19_code
def yX9_toldShop : MethodName := ⟨RX9, "toldShop", "(II)I"⟩
abbrev cX9_shopIs : ByteArray := prog_11_method_20_code
def yX9_shopIs : MethodName := ⟨RX9, "shopIs", "(II)I"⟩
abbrev cX9_isUnder : ByteArray := prog_11_method_21_code
def yX9_isUnder : MethodName := ⟨RX9, "isUnder", "(II)Z"⟩
abbrev cX9_as : ByteArray := prog_11_method_22_code
def yX9_as : MethodName := ⟨RX9, "as", "(II)I"⟩
abbrev cX9_set : ByteArray := prog_11_method_23_code
def yX9_set : MethodName := ⟨RX9, "set", "(III)I"⟩
abbrev cX9_isCustomer1 : ByteArray := prog_11_method_24_code
def yX9_isCustomer1 : MethodName := ⟨RX9, "isCustomer1", "(III)Z"⟩
abbrev cX9_addCustomer : ByteArray := prog_11_method_25_code
def yX9_addCustomer : MethodName := ⟨RX9, "addCustomer", "(III)V"⟩
abbrev cX9_customer : ByteArray := prog_11_method_26_code
def yX9_customer : MethodName := ⟨RX9, "customer", "(III)I"⟩
abbrev cX9_customerIs : ByteArray := prog_11_method_27_code
def yX9_customerIs : MethodName := ⟨RX9, "customerIs", "(II)I"⟩
abbrev cX9_leave : ByteArray := prog_11_method_28_code
def yX9_leave : MethodName := ⟨RX9, "leave", "()I"⟩
abbrev cX9_feed : ByteArray := prog_11_method_29_code
def yX9_feed : MethodName := ⟨RX9, "feed", "(JI)I"⟩
abbrev cX9_look : ByteArray := prog_11_method_30_code
def yX9_look : MethodName := ⟨RX9, "look", "()I"⟩
abbrev cX9_isName : ByteArray := prog_11_method_31_code
def yX9_isName : MethodName := ⟨RX9, "isName", "(I)Z"⟩
abbrev cX9_lays : ByteArray := prog_11_method_32_code
def yX9_lays : MethodName := ⟨RX9, "lays", "(II)V"⟩
abbrev cX9_whole : ByteArray := prog_11_method_33_code
def yX9_whole : MethodName := ⟨RX9, "whole", "()Z"⟩
abbrev cX9_both : ByteArray := prog_11_method_34_code
def yX9_both : MethodName := ⟨RX9, "both", "()Z"⟩
abbrev cX9_compared : ByteArray := prog_11_method_35_code
def yX9_compared : MethodName := ⟨RX9, "compared", "()Z"⟩
abbrev cX9_sum : ByteArray := prog_11_method_36_code
def yX9_sum : MethodName := ⟨RX9, "sum", "()Z"⟩
abbrev cX9_product : ByteArray := prog_11_method_37_code
def yX9_product : MethodName := ⟨RX9, "product", "()Z"⟩
abbrev cX9_opens : ByteArray := prog_11_method_38_code
def yX9_opens : MethodName := ⟨RX9, "opens", "()Z"⟩
abbrev cX9_one : ByteArray := prog_11_method_39_code
def yX9_one : MethodName := ⟨RX9, "one", "()Z"⟩
abbrev cX9_hasText : ByteArray := prog_11_method_40_code
def yX9_hasText : MethodName := ⟨RX9, "hasText", "(I)Z"⟩
abbrev cX9_text : ByteArray := prog_11_method_41_code
def yX9_text : MethodName := ⟨RX9, "text", "(I)I"⟩
abbrev cX9_untell : ByteArray := prog_11_method_42_code
def yX9_untell : MethodName := ⟨RX9, "untell", "(I)I"⟩
abbrev cX9_joined : ByteArray := prog_11_method_43_code
def yX9_joined : MethodName := ⟨RX9, "joined", "(III)I"⟩
abbrev cX9_worked : ByteArray := prog_11_method_44_code
def yX9_worked : MethodName := ⟨RX9, "worked", "(I)I"⟩
abbrev cX9_fillsTold : ByteArray := prog_11_method_45_code
def yX9_fillsTold : MethodName := ⟨RX9, "fillsTold", "(II)I"⟩
abbrev cX9_fillsOf : ByteArray := prog_11_method_46_code
def yX9_fillsOf : MethodName := ⟨RX9, "fillsOf", "(II)I"⟩
abbrev cX9_priceTold : ByteArray := prog_11_method_47_code
def yX9_priceTold : MethodName := ⟨RX9, "priceTold", "(II)I"⟩
abbrev cX9_priceOf : ByteArray := prog_11_method_48_code
def yX9_priceOf : MethodName := ⟨RX9, "priceOf", "(II)I"⟩
abbrev cX9_price : ByteArray := prog_11_method_49_code
def yX9_price : MethodName := ⟨RX9, "price", "(II)I"⟩
abbrev cX9_fills : ByteArray := prog_11_method_50_code
def yX9_fills : MethodName := ⟨RX9, "fills", "(II)I"⟩
abbrev cX9_gets : ByteArray := prog_11_method_51_code
def yX9_gets : MethodName := ⟨RX9, "gets", "(II)V"⟩
abbrev cX9_hasOther : ByteArray := prog_11_method_52_code
def yX9_hasOther : MethodName := ⟨RX9, "hasOther", "(I)Z"⟩
abbrev cX9_buysOut : ByteArray := prog_11_method_53_code
def yX9_buysOut : MethodName := ⟨RX9, "buysOut", "(II)V"⟩
abbrev cX9_buys : ByteArray := prog_11_method_54_code
def yX9_buys : MethodName := ⟨RX9, "buys", "(I)V"⟩
abbrev cX9_fillAll : ByteArray := prog_11_method_55_code
def yX9_fillAll : MethodName := ⟨RX9, "fillAll", "(I)V"⟩
abbrev cX9_dawns : ByteArray := prog_11_method_56_code
def yX9_dawns : MethodName := ⟨RX9, "dawns", "()V"⟩
abbrev cX9_morning : ByteArray := prog_11_method_57_code
def yX9_morning : MethodName := ⟨RX9, "morning", "()I"⟩
abbrev cX9_shopOn : ByteArray := prog_11_method_58_code
def yX9_shopOn : MethodName := ⟨RX9, "shopOn", "(II)I"⟩
abbrev cX9_visits : ByteArray := prog_11_method_59_code
def yX9_visits : MethodName := ⟨RX9, "visits", "(I)I"⟩
abbrev cX9_visit : ByteArray := prog_11_method_60_code
def yX9_visit : MethodName := ⟨RX9, "visit", "(I)I"⟩
abbrev cX9_bitsOf : ByteArray := prog_11_method_61_code
def yX9_bitsOf : MethodName := ⟨RX9, "bitsOf", "(I)I"⟩
abbrev cX9_draw : ByteArray := prog_11_method_62_code
def yX9_draw : MethodName := ⟨RX9, "draw", "()I"⟩
abbrev cX9_day : ByteArray := prog_11_method_63_code
def yX9_day : MethodName := ⟨RX9, "day", "(Z)V"⟩
abbrev cX9_go : ByteArray := prog_11_method_64_code
def yX9_go : MethodName := ⟨RX9, "go", "(I)V"⟩
abbrev cX9_days : ByteArray := prog_11_method_65_code
def yX9_days : MethodName := ⟨RX9, "days", "(I)I"⟩
abbrev cX9_loose : ByteArray := prog_11_method_66_code
def yX9_loose : MethodName := ⟨RX9, "loose", "(I)I"⟩
abbrev cX9_seed : ByteArray := prog_11_method_67_code
def yX9_seed : MethodName := ⟨RX9, "seed", "(I)I"⟩
abbrev cX9_then : ByteArray := prog_11_method_68_code
def yX9_then : MethodName := ⟨RX9, "then", "(III)I"⟩
abbrev cX9_keep : ByteArray := prog_11_method_69_code
def yX9_keep : MethodName := ⟨RX9, "keep", "(III)I"⟩
abbrev cX9_purseBy : ByteArray := prog_11_method_70_code
def yX9_purseBy : MethodName := ⟨RX9, "purseBy", "(III)I"⟩
abbrev cX9_range : ByteArray := prog_11_method_71_code
def yX9_range : MethodName := ⟨RX9, "range", "(II)I"⟩
abbrev cX9_turns : ByteArray := prog_11_method_72_code
def yX9_turns : MethodName := ⟨RX9, "turns", "(I)V"⟩
abbrev cX9_turn : ByteArray := prog_11_method_73_code
def yX9_turn : MethodName := ⟨RX9, "turn", "(II)I"⟩
abbrev cX9_behindVisits : ByteArray := prog_11_method_74_code
def yX9_behindVisits : MethodName := ⟨RX9, "behindVisits", "(I)I"⟩
abbrev cX9_out : ByteArray := prog_11_method_75_code
def yX9_out : MethodName := ⟨RX9, "out", "(II)I"⟩
abbrev cX9_joins : ByteArray := prog_11_method_76_code
def yX9_joins : MethodName := ⟨RX9, "joins", "(I)V"⟩
abbrev cX9_joined_ : ByteArray := prog_11_method_77_code
def yX9_joined_ : MethodName := ⟨RX9, "joined", "(II)I"⟩
abbrev cX9_walk : ByteArray := prog_11_method_78_code
def yX9_walk : MethodName := ⟨RX9, "walk", "(I)I"⟩
abbrev cX9_begins : ByteArray := prog_11_method_79_code
def yX9_begins : MethodName := ⟨RX9, "begins", "(I)V"⟩
abbrev cX9_above : ByteArray := prog_11_method_80_code
def yX9_above : MethodName := ⟨RX9, "above", "(I)I"⟩
abbrev cX9_kindNow : ByteArray := prog_11_method_81_code
def yX9_kindNow : MethodName := ⟨RX9, "kindNow", "()I"⟩
abbrev cX9_mNow : ByteArray := prog_11_method_82_code
def yX9_mNow : MethodName := ⟨RX9, "mNow", "()I"⟩
abbrev cX9_sellsBy : ByteArray := prog_11_method_83_code
def yX9_sellsBy : MethodName := ⟨RX9, "sellsBy", "(II)I"⟩
abbrev cX9_fillsBy : ByteArray := prog_11_method_84_code
def yX9_fillsBy : MethodName := ⟨RX9, "fillsBy", "(II)I"⟩
abbrev cX9_owesBy : ByteArray := prog_11_method_85_code
def yX9_owesBy : MethodName := ⟨RX9, "owesBy", "(II)I"⟩
abbrev cX9_partsBy : ByteArray := prog_11_method_86_code
def yX9_partsBy : MethodName := ⟨RX9, "partsBy", "(II)I"⟩
abbrev cX9_voice : ByteArray := prog_11_method_87_code
def yX9_voice : MethodName := ⟨RX9, "voice", "(III)I"⟩
abbrev cX9_body : ByteArray := prog_11_method_88_code
def yX9_body : MethodName := ⟨RX9, "body", "(I)I"⟩
abbrev cX9_isSheet : ByteArray := prog_11_method_89_code
def yX9_isSheet : MethodName := ⟨RX9, "isSheet", "(I)Z"⟩
abbrev cX9_sheet : ByteArray := prog_11_method_90_code
def yX9_sheet : MethodName := ⟨RX9, "sheet", "(III)I"⟩
abbrev cX9_put : ByteArray := prog_11_method_91_code
def yX9_put : MethodName := ⟨RX9, "put", "(III)I"⟩
abbrev cX9_move : ByteArray := prog_11_method_92_code
def yX9_move : MethodName := ⟨RX9, "move", "(IIIII)I"⟩
abbrev cX9_lacks : ByteArray := prog_11_method_93_code
def yX9_lacks : MethodName := ⟨RX9, "lacks", "(I)I"⟩
abbrev cX9_customers : ByteArray := prog_11_method_94_code
def yX9_customers : MethodName := ⟨RX9, "customers", "(I)I"⟩
abbrev cX9_judge : ByteArray := prog_11_method_95_code
def yX9_judge : MethodName := ⟨RX9, "judge", "(I)I"⟩
abbrev cX9_leaves : ByteArray := prog_11_method_96_code
def yX9_leaves : MethodName := ⟨RX9, "leaves", "(III)Z"⟩
abbrev cX9_came : ByteArray := prog_11_method_97_code
def yX9_came : MethodName := ⟨RX9, "came", "(III)I"⟩
abbrev cX9_image : ByteArray := prog_11_method_98_code
def yX9_image : MethodName := ⟨RX9, "image", "()I"⟩
abbrev cX9_restore : ByteArray := prog_11_method_99_code
def yX9_restore : MethodName := ⟨RX9, "restore", "()I"⟩
abbrev cX9_tell : ByteArray := prog_11_method_100_code
def yX9_tell : MethodName := ⟨RX9, "tell", "(I)I"⟩
abbrev cX9_check : ByteArray := prog_11_method_101_code
def yX9_check : MethodName := ⟨RX9, "check", "()I"⟩
abbrev cX9_count : ByteArray := prog_11_method_102_code
def yX9_count : MethodName := ⟨RX9, "count", "(I)I"⟩
abbrev cX9_told : ByteArray := prog_11_method_103_code
def yX9_told : MethodName := ⟨RX9, "told", "(I)I"⟩
def RJx145de : String := "java/io/Serializable"
def TJx145de : u_T := fun k => match k with
  | _ => ("", "", "", false)
def tyJx145de : Nat → FieldType := fun k => match k with
  | _ => .int
abbrev wsJx145de0 : List Cond := u_ws RJx145de TJx145de 0
theorem nmJx145de : ∀ a, a < 0 → ∀ b, b < 0 → a ≠ b → (TJx145de a).2.1 ≠ (TJx145de b).2.1 := by decide +kernel
theorem tyJx145de_ok : ∀ k, k < 0 → parseFieldDescriptor (TJx145de k).2.2.1 = some (tyJx145de k) := by decide +kernel
def RJx9f9b0 : String := "java/lang/CharSequence"
def TJx9f9b0 : u_T := fun k => match k with
  | _ => ("", "", "", false)
def tyJx9f9b0 : Nat → FieldType := fun k => match k with
  | _ => .int
abbrev wsJx9f9b00 : List Cond := u_ws RJx9f9b0 TJx9f9b0 0
theorem nmJx9f9b0 : ∀ a, a < 0 → ∀ b, b < 0 → a ≠ b → (TJx9f9b0 a).2.1 ≠ (TJx9f9b0 b).2.1 := by decide +kernel
theorem tyJx9f9b0_ok : ∀ k, k < 0 → parseFieldDescriptor (TJx9f9b0 k).2.2.1 = some (tyJx9f9b0 k) := by decide +kernel
def RJ11 : String := "java/lang/Character"
def TJ11 : u_T := fun k => match k with
  | _ => ("", "", "", false)
def tyJ11 : Nat → FieldType := fun k => match k with
  | _ => .int
abbrev wsJ110 : List Cond := u_ws RJ11 TJ11 0
theorem nmJ11 : ∀ a, a < 0 → ∀ b, b < 0 → a ≠ b → (TJ11 a).2.1 ≠ (TJ11 b).2.1 := by decide +kernel
theorem tyJ11_ok : ∀ k, k < 0 → parseFieldDescriptor (TJ11 k).2.2.1 = some (tyJ11 k) := by decide +kernel
abbrev cJ11_isValidCodePoint_9a6ad : ByteArray := prog_12_method_11_code
def yJ11_isValidCodePoint_9a6ad : MethodName := ⟨RJ11, "isValidCodePoint", "(I)Z"⟩
abbrev cJ11_highSurrogate_5068e : ByteArray := prog_12_method_28_code
def yJ11_highSurrogate_5068e : MethodName := ⟨RJ11, "highSurrogate", "(I)C"⟩
abbrev cJ11_lowSurrogate_5068e : ByteArray := prog_12_method_29_code
def yJ11_lowSurrogate_5068e : MethodName := ⟨RJ11, "lowSurrogate", "(I)C"⟩
def RJxb160c : String := "java/lang/Comparable"
def TJxb160c : u_T := fun k => match k with
  | _ => ("", "", "", false)
def tyJxb160c : Nat → FieldType := fun k => match k with
  | _ => .int
abbrev wsJxb160c0 : List Cond := u_ws RJxb160c TJxb160c 0
theorem nmJxb160c : ∀ a, a < 0 → ∀ b, b < 0 → a ≠ b → (TJxb160c a).2.1 ≠ (TJxb160c b).2.1 := by decide +kernel
theorem tyJxb160c_ok : ∀ k, k < 0 → parseFieldDescriptor (TJxb160c k).2.2.1 = some (tyJxb160c k) := by decide +kernel
def RJ6 : String := "java/lang/Integer"
def TJ6 : u_T := fun k => match k with
  | _ => ("", "", "", false)
def tyJ6 : Nat → FieldType := fun k => match k with
  | _ => .int
abbrev wsJ60 : List Cond := u_ws RJ6 TJ6 0
theorem nmJ6 : ∀ a, a < 0 → ∀ b, b < 0 → a ≠ b → (TJ6 a).2.1 ≠ (TJ6 b).2.1 := by decide +kernel
theorem tyJ6_ok : ∀ k, k < 0 → parseFieldDescriptor (TJ6 k).2.2.1 = some (tyJ6 k) := by decide +kernel
abbrev cJ6_bitCount_0f7a4 : ByteArray := prog_13_method_49_code
def yJ6_bitCount_0f7a4 : MethodName := ⟨RJ6, "bitCount", "(I)I"⟩
def RJ9 : String := "java/lang/Math"
def TJ9 : u_T := fun k => match k with
  | _ => ("", "", "", false)
def tyJ9 : Nat → FieldType := fun k => match k with
  | _ => .int
abbrev wsJ90 : List Cond := u_ws RJ9 TJ9 0
theorem nmJ9 : ∀ a, a < 0 → ∀ b, b < 0 → a ≠ b → (TJ9 a).2.1 ≠ (TJ9 b).2.1 := by decide +kernel
theorem tyJ9_ok : ∀ k, k < 0 → parseFieldDescriptor (TJ9 k).2.2.1 = some (tyJ9 k) := by decide +kernel
abbrev cJ9_max_7cf53 : ByteArray := prog_14_method_65_code
def yJ9_max_7cf53 : MethodName := ⟨RJ9, "max", "(II)I"⟩
abbrev cJ9_min_7cf53 : ByteArray := prog_14_method_69_code
def yJ9_min_7cf53 : MethodName := ⟨RJ9, "min", "(II)I"⟩
def RJ0 : String := "java/lang/String"
def TJ0 : u_T := fun k => match k with
  | _ => ("", "", "", false)
def tyJ0 : Nat → FieldType := fun k => match k with
  | _ => .int
abbrev wsJ00 : List Cond := u_ws RJ0 TJ0 0
theorem nmJ0 : ∀ a, a < 0 → ∀ b, b < 0 → a ≠ b → (TJ0 a).2.1 ≠ (TJ0 b).2.1 := by decide +kernel
theorem tyJ0_ok : ∀ k, k < 0 → parseFieldDescriptor (TJ0 k).2.2.1 = some (tyJ0 k) := by decide +kernel
abbrev cJ0_length_8abf5 : ByteArray := prog_15_method_54_code
def yJ0_length_8abf5 : MethodName := ⟨RJ0, "length", "()I"⟩
abbrev cJ0_indexOf_0f7a4 : ByteArray := prog_15_method_79_code
def yJ0_indexOf_0f7a4 : MethodName := ⟨RJ0, "indexOf", "(I)I"⟩
abbrev cJ0_indexOf_7cf53 : ByteArray := prog_15_method_80_code
def yJ0_indexOf_7cf53 : MethodName := ⟨RJ0, "indexOf", "(II)I"⟩
abbrev cJ0_coder_7d493 : ByteArray := prog_15_method_152_code
def yJ0_coder_7d493 : MethodName := ⟨RJ0, "coder", "()B"⟩
abbrev cJ0_isLatin1_aae02 : ByteArray := prog_15_method_154_code
def yJ0_isLatin1_aae02 : MethodName := ⟨RJ0, "isLatin1", "()Z"⟩
abbrev cJ0_checkBoundsBeginEnd_23922 : ByteArray := prog_15_method_158_code
def yJ0_checkBoundsBeginEnd_23922 : MethodName := ⟨RJ0, "checkBoundsBeginEnd", "(III)V"⟩
def RJ1 : String := "java/lang/StringLatin1"
def TJ1 : u_T := fun k => match k with
  | _ => ("", "", "", false)
def tyJ1 : Nat → FieldType := fun k => match k with
  | _ => .int
abbrev wsJ10 : List Cond := u_ws RJ1 TJ1 0
theorem nmJ1 : ∀ a, a < 0 → ∀ b, b < 0 → a ≠ b → (TJ1 a).2.1 ≠ (TJ1 b).2.1 := by decide +kernel
theorem tyJ1_ok : ∀ k, k < 0 → parseFieldDescriptor (TJ1 k).2.2.1 = some (tyJ1 k) := by decide +kernel
abbrev cJ1_canEncode_9a6ad : ByteArray := prog_16_method_4_code
def yJ1_canEncode_9a6ad : MethodName := ⟨RJ1, "canEncode", "(I)Z"⟩
abbrev cJ1_indexOf_4cfef : ByteArray := prog_16_method_22_code
def yJ1_indexOf_4cfef : MethodName := ⟨RJ1, "indexOf", "([BIII)I"⟩
abbrev cJ1_indexOfChar_4cfef : ByteArray := prog_16_method_23_code
def yJ1_indexOfChar_4cfef : MethodName := ⟨RJ1, "indexOfChar", "([BIII)I"⟩
def RJ2 : String := "java/lang/StringUTF16"
def TJ2 : u_T := fun k => match k with
  | _ => ("", "", "", false)
def tyJ2 : Nat → FieldType := fun k => match k with
  | _ => .int
abbrev wsJ20 : List Cond := u_ws RJ2 TJ2 0
theorem nmJ2 : ∀ a, a < 0 → ∀ b, b < 0 → a ≠ b → (TJ2 a).2.1 ≠ (TJ2 b).2.1 := by decide +kernel
theorem tyJ2_ok : ∀ k, k < 0 → parseFieldDescriptor (TJ2 k).2.2.1 = some (tyJ2 k) := by decide +kernel
abbrev cJ2_getChar_3b067 : ByteArray := prog_17_method_5_code
def yJ2_getChar_3b067 : MethodName := ⟨RJ2, "getChar", "([BI)C"⟩
abbrev cJ2_length_9d52b : ByteArray := prog_17_method_6_code
def yJ2_length_9d52b : MethodName := ⟨RJ2, "length", "([B)I"⟩
abbrev cJ2_indexOf_4cfef : ByteArray := prog_17_method_40_code
def yJ2_indexOf_4cfef : MethodName := ⟨RJ2, "indexOf", "([BIII)I"⟩
abbrev cJ2_indexOfChar_4cfef : ByteArray := prog_17_method_47_code
def yJ2_indexOfChar_4cfef : MethodName := ⟨RJ2, "indexOfChar", "([BIII)I"⟩
abbrev cJ2_indexOfCharUnsafe_4cfef : ByteArray := prog_17_method_48_code
def yJ2_indexOfCharUnsafe_4cfef : MethodName := ⟨RJ2, "indexOfCharUnsafe", "([BIII)I"⟩
abbrev cJ2_indexOfSupplementary_4cfef : ByteArray := prog_17_method_49_code
def yJ2_indexOfSupplementary_4cfef : MethodName := ⟨RJ2, "indexOfSupplementary", "([BIII)I"⟩
abbrev cJ2_checkBoundsBeginEnd_d044e : ByteArray := prog_17_method_93_code
def yJ2_checkBoundsBeginEnd_d044e : MethodName := ⟨RJ2, "checkBoundsBeginEnd", "(II[B)V"⟩
def RJ10 : String := "java/lang/System"
def TJ10 : u_T := fun k => match k with
  | _ => ("", "", "", false)
def tyJ10 : Nat → FieldType := fun k => match k with
  | _ => .int
abbrev wsJ100 : List Cond := u_ws RJ10 TJ10 0
theorem nmJ10 : ∀ a, a < 0 → ∀ b, b < 0 → a ≠ b → (TJ10 a).2.1 ≠ (TJ10 b).2.1 := by decide +kernel
theorem tyJ10_ok : ∀ k, k < 0 → parseFieldDescriptor (TJ10 k).2.2.1 = some (tyJ10 k) := by decide +kernel
def RJxfd54e : String := "java/lang/constant/Constable"
def TJxfd54e : u_T := fun k => match k with
  | _ => ("", "", "", false)
def tyJxfd54e : Nat → FieldType := fun k => match k with
  | _ => .int
abbrev wsJxfd54e0 : List Cond := u_ws RJxfd54e TJxfd54e 0
theorem nmJxfd54e : ∀ a, a < 0 → ∀ b, b < 0 → a ≠ b → (TJxfd54e a).2.1 ≠ (TJxfd54e b).2.1 := by decide +kernel
theorem tyJxfd54e_ok : ∀ k, k < 0 → parseFieldDescriptor (TJxfd54e k).2.2.1 = some (tyJxfd54e k) := by decide +kernel
def RJx3cf43 : String := "java/lang/constant/ConstantDesc"
def TJx3cf43 : u_T := fun k => match k with
  | _ => ("", "", "", false)
def tyJx3cf43 : Nat → FieldType := fun k => match k with
  | _ => .int
abbrev wsJx3cf430 : List Cond := u_ws RJx3cf43 TJx3cf43 0
theorem nmJx3cf43 : ∀ a, a < 0 → ∀ b, b < 0 → a ≠ b → (TJx3cf43 a).2.1 ≠ (TJx3cf43 b).2.1 := by decide +kernel
theorem tyJx3cf43_ok : ∀ k, k < 0 → parseFieldDescriptor (TJx3cf43 k).2.2.1 = some (tyJx3cf43 k) := by decide +kernel
def RJ7 : String := "java/util/Arrays"
def TJ7 : u_T := fun k => match k with
  | _ => ("", "", "", false)
def tyJ7 : Nat → FieldType := fun k => match k with
  | _ => .int
abbrev wsJ70 : List Cond := u_ws RJ7 TJ7 0
theorem nmJ7 : ∀ a, a < 0 → ∀ b, b < 0 → a ≠ b → (TJ7 a).2.1 ≠ (TJ7 b).2.1 := by decide +kernel
theorem tyJ7_ok : ∀ k, k < 0 → parseFieldDescriptor (TJ7 k).2.2.1 = some (tyJ7 k) := by decide +kernel
abbrev cJ7_fill_53178 : ByteArray := prog_19_method_103_code
def yJ7_fill_53178 : MethodName := ⟨RJ7, "fill", "([II)V"⟩
def RJ3 : String := "jdk/internal/util/Preconditions"
def TJ3 : u_T := fun k => match k with
  | _ => ("", "", "", false)
def tyJ3 : Nat → FieldType := fun k => match k with
  | _ => .int
abbrev wsJ30 : List Cond := u_ws RJ3 TJ3 0
theorem nmJ3 : ∀ a, a < 0 → ∀ b, b < 0 → a ≠ b → (TJ3 a).2.1 ≠ (TJ3 b).2.1 := by decide +kernel
theorem tyJ3_ok : ∀ k, k < 0 → parseFieldDescriptor (TJ3 k).2.2.1 = some (tyJ3 k) := by decide +kernel
abbrev cJ3_checkFromToIndex_8c36e : ByteArray := prog_20_method_12_code
def yJ3_checkFromToIndex_8c36e : MethodName := ⟨RJ3, "checkFromToIndex", "(IIILjava/util/function/BiFunction;)I"⟩
def RL : String := "LeftLacksLaw"
abbrev cL_law : ByteArray := code
def yL_law : MethodName := ⟨RL, "law", "([I)Z"⟩
end
section
theorem dX0_init_0 : decode cX0_init 0 = .ok (.aload_n 0, 1) := by decide +kernel
theorem dX0_init_1 : decode cX0_init 1 = .ok (.invokespecial 1, 3) := by decide +kernel
theorem dX0_init_4 : decode cX0_init 4 = .ok (.return_, 1) := by decide +kernel
theorem dX0_copyFrom_0 : decode cX0_copyFrom 0 = .ok (.aload_n 0, 1) := by decide +kernel
theorem dX0_copyFrom_1 : decode cX0_copyFrom 1 = .ok (.aload_n 1, 1) := by decide +kernel
theorem dX0_copyFrom_2 : decode cX0_copyFrom 2 = .ok (.getfield 7, 3) := by decide +kernel
theorem dX0_copyFrom_5 : decode cX0_copyFrom 5 = .ok (.putfield 7, 3) := by decide +kernel
theorem dX0_copyFrom_8 : decode cX0_copyFrom 8 = .ok (.aload_n 0, 1) := by decide +kernel
theorem dX0_copyFrom_9 : decode cX0_copyFrom 9 = .ok (.aload_n 1, 1) := by decide +kernel
theorem dX0_copyFrom_10 : decode cX0_copyFrom 10 = .ok (.getfield 13, 3) := by decide +kernel
theorem dX0_copyFrom_13 : decode cX0_copyFrom 13 = .ok (.putfield 13, 3) := by decide +kernel
theorem dX0_copyFrom_16 : decode cX0_copyFrom 16 = .ok (.aload_n 0, 1) := by decide +kernel
theorem dX0_copyFrom_17 : decode cX0_copyFrom 17 = .ok (.aload_n 1, 1) := by decide +kernel
theorem dX0_copyFrom_18 : decode cX0_copyFrom 18 = .ok (.getfield 16, 3) := by decide +kernel
theorem dX0_copyFrom_21 : decode cX0_copyFrom 21 = .ok (.putfield 16, 3) := by decide +kernel
theorem dX0_copyFrom_24 : decode cX0_copyFrom 24 = .ok (.aload_n 0, 1) := by decide +kernel
theorem dX0_copyFrom_25 : decode cX0_copyFrom 25 = .ok (.aload_n 1, 1) := by decide +kernel
theorem dX0_copyFrom_26 : decode cX0_copyFrom 26 = .ok (.getfield 19, 3) := by decide +kernel
theorem dX0_copyFrom_29 : decode cX0_copyFrom 29 = .ok (.putfield 19, 3) := by decide +kernel
theorem dX0_copyFrom_32 : decode cX0_copyFrom 32 = .ok (.return_, 1) := by decide +kernel
theorem dX1_init_0 : decode cX1_init 0 = .ok (.aload_n 0, 1) := by decide +kernel
theorem dX1_init_1 : decode cX1_init 1 = .ok (.invokespecial 3, 3) := by decide +kernel
theorem dX1_init_4 : decode cX1_init 4 = .ok (.aload_n 0, 1) := by decide +kernel
theorem dX1_init_5 : decode cX1_init 5 = .ok (.bipush 60, 2) := by decide +kernel
theorem dX1_init_7 : decode cX1_init 7 = .ok (.newarray .int, 2) := by decide +kernel
theorem dX1_init_9 : decode cX1_init 9 = .ok (.putfield 9, 3) := by decide +kernel
theorem dX1_init_12 : decode cX1_init 12 = .ok (.aload_n 0, 1) := by decide +kernel
theorem dX1_init_13 : decode cX1_init 13 = .ok (.bipush 60, 2) := by decide +kernel
theorem dX1_init_15 : decode cX1_init 15 = .ok (.newarray .int, 2) := by decide +kernel
theorem dX1_init_17 : decode cX1_init 17 = .ok (.putfield 15, 3) := by decide +kernel
theorem dX1_init_20 : decode cX1_init 20 = .ok (.return_, 1) := by decide +kernel
theorem dX1_isTold_0 : decode cX1_isTold 0 = .ok (.aload_n 0, 1) := by decide +kernel
theorem dX1_isTold_1 : decode cX1_isTold 1 = .ok (.getfield 18, 3) := by decide +kernel
theorem dX1_isTold_4 : decode cX1_isTold 4 = .ok (.ifCond .le 7, 3) := by decide +kernel
theorem dX1_isTold_7 : decode cX1_isTold 7 = .ok (.iconst 1, 1) := by decide +kernel
theorem dX1_isTold_8 : decode cX1_isTold 8 = .ok (.goto 4, 3) := by decide +kernel
theorem dX1_isTold_11 : decode cX1_isTold 11 = .ok (.iconst 0, 1) := by decide +kernel
theorem dX1_isTold_12 : decode cX1_isTold 12 = .ok (.ireturn, 1) := by decide +kernel
theorem dX1_take_0 : decode cX1_take 0 = .ok (.aload_n 1, 1) := by decide +kernel
theorem dX1_take_1 : decode cX1_take 1 = .ok (.iconst 0, 1) := by decide +kernel
theorem dX1_take_2 : decode cX1_take 2 = .ok (.aload_n 0, 1) := by decide +kernel
theorem dX1_take_3 : decode cX1_take 3 = .ok (.getfield 9, 3) := by decide +kernel
theorem dX1_take_6 : decode cX1_take 6 = .ok (.iconst 0, 1) := by decide +kernel
theorem dX1_take_7 : decode cX1_take 7 = .ok (.iload_n 2, 1) := by decide +kernel
theorem dX1_take_8 : decode cX1_take 8 = .ok (.invokestatic 22, 3) := by decide +kernel
theorem dX1_take_11 : decode cX1_take 11 = .ok (.aload_n 0, 1) := by decide +kernel
theorem dX1_take_12 : decode cX1_take 12 = .ok (.iload_n 2, 1) := by decide +kernel
theorem dX1_take_13 : decode cX1_take 13 = .ok (.putfield 18, 3) := by decide +kernel
theorem dX1_take_16 : decode cX1_take 16 = .ok (.return_, 1) := by decide +kernel
theorem dX1_value_0 : decode cX1_value 0 = .ok (.iconst 0, 1) := by decide +kernel
theorem dX1_value_1 : decode cX1_value 1 = .ok (.istore 5, 2) := by decide +kernel
theorem dX1_value_3 : decode cX1_value 3 = .ok (.iconst 0, 1) := by decide +kernel
theorem dX1_value_4 : decode cX1_value 4 = .ok (.istore 6, 2) := by decide +kernel
theorem dX1_value_6 : decode cX1_value 6 = .ok (.iload 6, 2) := by decide +kernel
theorem dX1_value_8 : decode cX1_value 8 = .ok (.aload_n 0, 1) := by decide +kernel
theorem dX1_value_9 : decode cX1_value 9 = .ok (.getfield 18, 3) := by decide +kernel
theorem dX1_value_12 : decode cX1_value 12 = .ok (.if_icmp .ge 140, 3) := by decide +kernel
theorem dX1_value_15 : decode cX1_value 15 = .ok (.aload_n 0, 1) := by decide +kernel
theorem dX1_value_16 : decode cX1_value 16 = .ok (.getfield 9, 3) := by decide +kernel
theorem dX1_value_19 : decode cX1_value 19 = .ok (.iload 6, 2) := by decide +kernel
theorem dX1_value_21 : decode cX1_value 21 = .ok (.iaload, 1) := by decide +kernel
theorem dX1_value_22 : decode cX1_value 22 = .ok (.istore 7, 2) := by decide +kernel
theorem dX1_value_24 : decode cX1_value 24 = .ok (.iload 7, 2) := by decide +kernel
theorem dX1_value_26 : decode cX1_value 26 = .ok (.bipush (-4), 2) := by decide +kernel
theorem dX1_value_28 : decode cX1_value 28 = .ok (.if_icmp .lt 36, 3) := by decide +kernel
theorem dX1_value_31 : decode cX1_value 31 = .ok (.aload_n 0, 1) := by decide +kernel
theorem dX1_value_32 : decode cX1_value 32 = .ok (.getfield 15, 3) := by decide +kernel
theorem dX1_value_35 : decode cX1_value 35 = .ok (.iload 5, 2) := by decide +kernel
theorem dX1_value_37 : decode cX1_value 37 = .ok (.iload 7, 2) := by decide +kernel
theorem dX1_value_39 : decode cX1_value 39 = .ok (.ifCond .lt 8, 3) := by decide +kernel
theorem dX1_value_42 : decode cX1_value 42 = .ok (.iload 7, 2) := by decide +kernel
theorem dX1_value_44 : decode cX1_value 44 = .ok (.goto 13, 3) := by decide +kernel
theorem dX1_value_47 : decode cX1_value 47 = .ok (.iload 7, 2) := by decide +kernel
theorem dX1_value_49 : decode cX1_value 49 = .ok (.iload_n 1, 1) := by decide +kernel
theorem dX1_value_50 : decode cX1_value 50 = .ok (.iload_n 2, 1) := by decide +kernel
theorem dX1_value_51 : decode cX1_value 51 = .ok (.iload_n 3, 1) := by decide +kernel
theorem dX1_value_52 : decode cX1_value 52 = .ok (.iload 4, 2) := by decide +kernel
theorem dX1_value_54 : decode cX1_value 54 = .ok (.invokestatic 28, 3) := by decide +kernel
theorem dX1_value_57 : decode cX1_value 57 = .ok (.iastore, 1) := by decide +kernel
theorem dX1_value_58 : decode cX1_value 58 = .ok (.iinc 5 1, 3) := by decide +kernel
theorem dX1_value_61 : decode cX1_value 61 = .ok (.goto 85, 3) := by decide +kernel
theorem dX1_value_64 : decode cX1_value 64 = .ok (.iload 7, 2) := by decide +kernel
theorem dX1_value_66 : decode cX1_value 66 = .ok (.bipush (-33), 2) := by decide +kernel
theorem dX1_value_68 : decode cX1_value 68 = .ok (.if_icmp .ne 38, 3) := by decide +kernel
theorem dX1_value_71 : decode cX1_value 71 = .ok (.iload 5, 2) := by decide +kernel
theorem dX1_value_73 : decode cX1_value 73 = .ok (.iconst 1, 1) := by decide +kernel
theorem dX1_value_74 : decode cX1_value 74 = .ok (.if_icmp .lt 32, 3) := by decide +kernel
theorem dX1_value_77 : decode cX1_value 77 = .ok (.aload_n 0, 1) := by decide +kernel
theorem dX1_value_78 : decode cX1_value 78 = .ok (.getfield 15, 3) := by decide +kernel
theorem dX1_value_81 : decode cX1_value 81 = .ok (.iload 5, 2) := by decide +kernel
theorem dX1_value_83 : decode cX1_value 83 = .ok (.iconst 1, 1) := by decide +kernel
theorem dX1_value_84 : decode cX1_value 84 = .ok (.isub, 1) := by decide +kernel
theorem dX1_value_85 : decode cX1_value 85 = .ok (.aload_n 0, 1) := by decide +kernel
theorem dX1_value_86 : decode cX1_value 86 = .ok (.getfield 15, 3) := by decide +kernel
theorem dX1_value_89 : decode cX1_value 89 = .ok (.iload 5, 2) := by decide +kernel
theorem dX1_value_91 : decode cX1_value 91 = .ok (.iconst 1, 1) := by decide +kernel
theorem dX1_value_92 : decode cX1_value 92 = .ok (.isub, 1) := by decide +kernel
theorem dX1_value_93 : decode cX1_value 93 = .ok (.iaload, 1) := by decide +kernel
theorem dX1_value_94 : decode cX1_value 94 = .ok (.ifCond .ne 7, 3) := by decide +kernel
theorem dX1_value_97 : decode cX1_value 97 = .ok (.iconst 1, 1) := by decide +kernel
theorem dX1_value_98 : decode cX1_value 98 = .ok (.goto 4, 3) := by decide +kernel
theorem dX1_value_101 : decode cX1_value 101 = .ok (.iconst 0, 1) := by decide +kernel
theorem dX1_value_102 : decode cX1_value 102 = .ok (.iastore, 1) := by decide +kernel
theorem dX1_value_103 : decode cX1_value 103 = .ok (.goto 43, 3) := by decide +kernel
theorem dX1_value_106 : decode cX1_value 106 = .ok (.iload 5, 2) := by decide +kernel
theorem dX1_value_108 : decode cX1_value 108 = .ok (.iconst 2, 1) := by decide +kernel
theorem dX1_value_109 : decode cX1_value 109 = .ok (.if_icmp .lt 37, 3) := by decide +kernel
theorem dX1_value_112 : decode cX1_value 112 = .ok (.iinc 5 (-1), 3) := by decide +kernel
theorem dX1_value_115 : decode cX1_value 115 = .ok (.aload_n 0, 1) := by decide +kernel
theorem dX1_value_116 : decode cX1_value 116 = .ok (.getfield 15, 3) := by decide +kernel
theorem dX1_value_119 : decode cX1_value 119 = .ok (.iload 5, 2) := by decide +kernel
theorem dX1_value_121 : decode cX1_value 121 = .ok (.iconst 1, 1) := by decide +kernel
theorem dX1_value_122 : decode cX1_value 122 = .ok (.isub, 1) := by decide +kernel
theorem dX1_value_123 : decode cX1_value 123 = .ok (.iload 7, 2) := by decide +kernel
theorem dX1_value_125 : decode cX1_value 125 = .ok (.ineg, 1) := by decide +kernel
theorem dX1_value_126 : decode cX1_value 126 = .ok (.aload_n 0, 1) := by decide +kernel
theorem dX1_value_127 : decode cX1_value 127 = .ok (.getfield 15, 3) := by decide +kernel
theorem dX1_value_130 : decode cX1_value 130 = .ok (.iload 5, 2) := by decide +kernel
theorem dX1_value_132 : decode cX1_value 132 = .ok (.iconst 1, 1) := by decide +kernel
theorem dX1_value_133 : decode cX1_value 133 = .ok (.isub, 1) := by decide +kernel
theorem dX1_value_134 : decode cX1_value 134 = .ok (.iaload, 1) := by decide +kernel
theorem dX1_value_135 : decode cX1_value 135 = .ok (.aload_n 0, 1) := by decide +kernel
theorem dX1_value_136 : decode cX1_value 136 = .ok (.getfield 15, 3) := by decide +kernel
theorem dX1_value_139 : decode cX1_value 139 = .ok (.iload 5, 2) := by decide +kernel
theorem dX1_value_141 : decode cX1_value 141 = .ok (.iaload, 1) := by decide +kernel
theorem dX1_value_142 : decode cX1_value 142 = .ok (.invokestatic 32, 3) := by decide +kernel
theorem dX1_value_145 : decode cX1_value 145 = .ok (.iastore, 1) := by decide +kernel
theorem dX1_value_146 : decode cX1_value 146 = .ok (.iinc 6 1, 3) := by decide +kernel
theorem dX1_value_149 : decode cX1_value 149 = .ok (.goto (-143), 3) := by decide +kernel
theorem dX1_value_152 : decode cX1_value 152 = .ok (.iload 5, 2) := by decide +kernel
theorem dX1_value_154 : decode cX1_value 154 = .ok (.ifCond .le 15, 3) := by decide +kernel
theorem dX1_value_157 : decode cX1_value 157 = .ok (.aload_n 0, 1) := by decide +kernel
theorem dX1_value_158 : decode cX1_value 158 = .ok (.getfield 15, 3) := by decide +kernel
theorem dX1_value_161 : decode cX1_value 161 = .ok (.iload 5, 2) := by decide +kernel
theorem dX1_value_163 : decode cX1_value 163 = .ok (.iconst 1, 1) := by decide +kernel
theorem dX1_value_164 : decode cX1_value 164 = .ok (.isub, 1) := by decide +kernel
theorem dX1_value_165 : decode cX1_value 165 = .ok (.iaload, 1) := by decide +kernel
theorem dX1_value_166 : decode cX1_value 166 = .ok (.goto 4, 3) := by decide +kernel
theorem dX1_value_169 : decode cX1_value 169 = .ok (.iconst 0, 1) := by decide +kernel
theorem dX1_value_170 : decode cX1_value 170 = .ok (.ireturn, 1) := by decide +kernel
theorem dX1_named_0 : decode cX1_named 0 = .ok (.iload_n 0, 1) := by decide +kernel
theorem dX1_named_1 : decode cX1_named 1 = .ok (.tableswitch 33 (-3) (-1) #[31, 29, 27], 27) := by decide +kernel
theorem dX1_named_28 : decode cX1_named 28 = .ok (.iload_n 1, 1) := by decide +kernel
theorem dX1_named_29 : decode cX1_named 29 = .ok (.ireturn, 1) := by decide +kernel
theorem dX1_named_30 : decode cX1_named 30 = .ok (.iload_n 2, 1) := by decide +kernel
theorem dX1_named_31 : decode cX1_named 31 = .ok (.ireturn, 1) := by decide +kernel
theorem dX1_named_32 : decode cX1_named 32 = .ok (.iload_n 3, 1) := by decide +kernel
theorem dX1_named_33 : decode cX1_named 33 = .ok (.ireturn, 1) := by decide +kernel
theorem dX1_named_34 : decode cX1_named 34 = .ok (.iload 4, 2) := by decide +kernel
theorem dX1_named_36 : decode cX1_named 36 = .ok (.ireturn, 1) := by decide +kernel
theorem dX1_worked_0 : decode cX1_worked 0 = .ok (.iload_n 0, 1) := by decide +kernel
theorem dX1_worked_1 : decode cX1_worked 1 = .ok (.lookupswitch 188 #[(37, 176), (38, 105), (42, 160), (43, 152), (45, 156), (47, 164), (60, 119), (61, 130), (62, 141), (124, 91)], 91) := by decide +kernel
theorem dX1_worked_92 : decode cX1_worked 92 = .ok (.iload_n 1, 1) := by decide +kernel
theorem dX1_worked_93 : decode cX1_worked 93 = .ok (.ifCond .ne 7, 3) := by decide +kernel
theorem dX1_worked_96 : decode cX1_worked 96 = .ok (.iload_n 2, 1) := by decide +kernel
theorem dX1_worked_97 : decode cX1_worked 97 = .ok (.ifCond .eq 7, 3) := by decide +kernel
theorem dX1_worked_100 : decode cX1_worked 100 = .ok (.iconst 1, 1) := by decide +kernel
theorem dX1_worked_101 : decode cX1_worked 101 = .ok (.goto 4, 3) := by decide +kernel
theorem dX1_worked_104 : decode cX1_worked 104 = .ok (.iconst 0, 1) := by decide +kernel
theorem dX1_worked_105 : decode cX1_worked 105 = .ok (.ireturn, 1) := by decide +kernel
theorem dX1_worked_106 : decode cX1_worked 106 = .ok (.iload_n 1, 1) := by decide +kernel
theorem dX1_worked_107 : decode cX1_worked 107 = .ok (.ifCond .eq 11, 3) := by decide +kernel
theorem dX1_worked_110 : decode cX1_worked 110 = .ok (.iload_n 2, 1) := by decide +kernel
theorem dX1_worked_111 : decode cX1_worked 111 = .ok (.ifCond .eq 7, 3) := by decide +kernel
theorem dX1_worked_114 : decode cX1_worked 114 = .ok (.iconst 1, 1) := by decide +kernel
theorem dX1_worked_115 : decode cX1_worked 115 = .ok (.goto 4, 3) := by decide +kernel
theorem dX1_worked_118 : decode cX1_worked 118 = .ok (.iconst 0, 1) := by decide +kernel
theorem dX1_worked_119 : decode cX1_worked 119 = .ok (.ireturn, 1) := by decide +kernel
theorem dX1_worked_120 : decode cX1_worked 120 = .ok (.iload_n 1, 1) := by decide +kernel
theorem dX1_worked_121 : decode cX1_worked 121 = .ok (.iload_n 2, 1) := by decide +kernel
theorem dX1_worked_122 : decode cX1_worked 122 = .ok (.if_icmp .ge 7, 3) := by decide +kernel
theorem dX1_worked_125 : decode cX1_worked 125 = .ok (.iconst 1, 1) := by decide +kernel
theorem dX1_worked_126 : decode cX1_worked 126 = .ok (.goto 4, 3) := by decide +kernel
theorem dX1_worked_129 : decode cX1_worked 129 = .ok (.iconst 0, 1) := by decide +kernel
theorem dX1_worked_130 : decode cX1_worked 130 = .ok (.ireturn, 1) := by decide +kernel
theorem dX1_worked_131 : decode cX1_worked 131 = .ok (.iload_n 1, 1) := by decide +kernel
theorem dX1_worked_132 : decode cX1_worked 132 = .ok (.iload_n 2, 1) := by decide +kernel
theorem dX1_worked_133 : decode cX1_worked 133 = .ok (.if_icmp .ne 7, 3) := by decide +kernel
theorem dX1_worked_136 : decode cX1_worked 136 = .ok (.iconst 1, 1) := by decide +kernel
theorem dX1_worked_137 : decode cX1_worked 137 = .ok (.goto 4, 3) := by decide +kernel
theorem dX1_worked_140 : decode cX1_worked 140 = .ok (.iconst 0, 1) := by decide +kernel
theorem dX1_worked_141 : decode cX1_worked 141 = .ok (.ireturn, 1) := by decide +kernel
theorem dX1_worked_142 : decode cX1_worked 142 = .ok (.iload_n 1, 1) := by decide +kernel
theorem dX1_worked_143 : decode cX1_worked 143 = .ok (.iload_n 2, 1) := by decide +kernel
theorem dX1_worked_144 : decode cX1_worked 144 = .ok (.if_icmp .le 7, 3) := by decide +kernel
theorem dX1_worked_147 : decode cX1_worked 147 = .ok (.iconst 1, 1) := by decide +kernel
theorem dX1_worked_148 : decode cX1_worked 148 = .ok (.goto 4, 3) := by decide +kernel
theorem dX1_worked_151 : decode cX1_worked 151 = .ok (.iconst 0, 1) := by decide +kernel
theorem dX1_worked_152 : decode cX1_worked 152 = .ok (.ireturn, 1) := by decide +kernel
theorem dX1_worked_153 : decode cX1_worked 153 = .ok (.iload_n 1, 1) := by decide +kernel
theorem dX1_worked_154 : decode cX1_worked 154 = .ok (.iload_n 2, 1) := by decide +kernel
theorem dX1_worked_155 : decode cX1_worked 155 = .ok (.iadd, 1) := by decide +kernel
theorem dX1_worked_156 : decode cX1_worked 156 = .ok (.ireturn, 1) := by decide +kernel
theorem dX1_worked_157 : decode cX1_worked 157 = .ok (.iload_n 1, 1) := by decide +kernel
theorem dX1_worked_158 : decode cX1_worked 158 = .ok (.iload_n 2, 1) := by decide +kernel
theorem dX1_worked_159 : decode cX1_worked 159 = .ok (.isub, 1) := by decide +kernel
theorem dX1_worked_160 : decode cX1_worked 160 = .ok (.ireturn, 1) := by decide +kernel
theorem dX1_worked_161 : decode cX1_worked 161 = .ok (.iload_n 1, 1) := by decide +kernel
theorem dX1_worked_162 : decode cX1_worked 162 = .ok (.iload_n 2, 1) := by decide +kernel
theorem dX1_worked_163 : decode cX1_worked 163 = .ok (.imul, 1) := by decide +kernel
theorem dX1_worked_164 : decode cX1_worked 164 = .ok (.ireturn, 1) := by decide +kernel
theorem dX1_worked_165 : decode cX1_worked 165 = .ok (.iload_n 2, 1) := by decide +kernel
theorem dX1_worked_166 : decode cX1_worked 166 = .ok (.ifCond .ne 7, 3) := by decide +kernel
theorem dX1_worked_169 : decode cX1_worked 169 = .ok (.iconst 0, 1) := by decide +kernel
theorem dX1_worked_170 : decode cX1_worked 170 = .ok (.goto 6, 3) := by decide +kernel
theorem dX1_worked_173 : decode cX1_worked 173 = .ok (.iload_n 1, 1) := by decide +kernel
theorem dX1_worked_174 : decode cX1_worked 174 = .ok (.iload_n 2, 1) := by decide +kernel
theorem dX1_worked_175 : decode cX1_worked 175 = .ok (.idiv, 1) := by decide +kernel
theorem dX1_worked_176 : decode cX1_worked 176 = .ok (.ireturn, 1) := by decide +kernel
theorem dX1_worked_177 : decode cX1_worked 177 = .ok (.iload_n 2, 1) := by decide +kernel
theorem dX1_worked_178 : decode cX1_worked 178 = .ok (.ifCond .ne 7, 3) := by decide +kernel
theorem dX1_worked_181 : decode cX1_worked 181 = .ok (.iconst 0, 1) := by decide +kernel
theorem dX1_worked_182 : decode cX1_worked 182 = .ok (.goto 6, 3) := by decide +kernel
theorem dX1_worked_185 : decode cX1_worked 185 = .ok (.iload_n 1, 1) := by decide +kernel
theorem dX1_worked_186 : decode cX1_worked 186 = .ok (.iload_n 2, 1) := by decide +kernel
theorem dX1_worked_187 : decode cX1_worked 187 = .ok (.irem, 1) := by decide +kernel
theorem dX1_worked_188 : decode cX1_worked 188 = .ok (.ireturn, 1) := by decide +kernel
theorem dX1_worked_189 : decode cX1_worked 189 = .ok (.iconst 0, 1) := by decide +kernel
theorem dX1_worked_190 : decode cX1_worked 190 = .ok (.ireturn, 1) := by decide +kernel
theorem dX2_init_0 : decode cX2_init 0 = .ok (.aload_n 0, 1) := by decide +kernel
theorem dX2_init_1 : decode cX2_init 1 = .ok (.invokespecial 3, 3) := by decide +kernel
theorem dX2_init_4 : decode cX2_init 4 = .ok (.aload_n 0, 1) := by decide +kernel
theorem dX2_init_5 : decode cX2_init 5 = .ok (.bipush 60, 2) := by decide +kernel
theorem dX2_init_7 : decode cX2_init 7 = .ok (.newarray .int, 2) := by decide +kernel
theorem dX2_init_9 : decode cX2_init 9 = .ok (.putfield 9, 3) := by decide +kernel
theorem dX2_init_12 : decode cX2_init 12 = .ok (.aload_n 0, 1) := by decide +kernel
theorem dX2_init_13 : decode cX2_init 13 = .ok (.bipush 60, 2) := by decide +kernel
theorem dX2_init_15 : decode cX2_init 15 = .ok (.newarray .int, 2) := by decide +kernel
theorem dX2_init_17 : decode cX2_init 17 = .ok (.putfield 15, 3) := by decide +kernel
theorem dX2_init_20 : decode cX2_init 20 = .ok (.aload_n 0, 1) := by decide +kernel
theorem dX2_init_21 : decode cX2_init 21 = .ok (.ldc 18, 2) := by decide +kernel
theorem dX2_init_23 : decode cX2_init 23 = .ok (.putfield 20, 3) := by decide +kernel
theorem dX2_init_26 : decode cX2_init 26 = .ok (.return_, 1) := by decide +kernel
theorem dX2_faultIn_0 : decode cX2_faultIn 0 = .ok (.aload_n 0, 1) := by decide +kernel
theorem dX2_faultIn_1 : decode cX2_faultIn 1 = .ok (.iconst 0, 1) := by decide +kernel
theorem dX2_faultIn_2 : decode cX2_faultIn 2 = .ok (.putfield 24, 3) := by decide +kernel
theorem dX2_faultIn_5 : decode cX2_faultIn 5 = .ok (.aload_n 0, 1) := by decide +kernel
theorem dX2_faultIn_6 : decode cX2_faultIn 6 = .ok (.iconst 0, 1) := by decide +kernel
theorem dX2_faultIn_7 : decode cX2_faultIn 7 = .ok (.putfield 28, 3) := by decide +kernel
theorem dX2_faultIn_10 : decode cX2_faultIn 10 = .ok (.aload_n 0, 1) := by decide +kernel
theorem dX2_faultIn_11 : decode cX2_faultIn 11 = .ok (.iconst 0, 1) := by decide +kernel
theorem dX2_faultIn_12 : decode cX2_faultIn 12 = .ok (.putfield 31, 3) := by decide +kernel
theorem dX2_faultIn_15 : decode cX2_faultIn 15 = .ok (.aload_n 0, 1) := by decide +kernel
theorem dX2_faultIn_16 : decode cX2_faultIn 16 = .ok (.iconst 0, 1) := by decide +kernel
theorem dX2_faultIn_17 : decode cX2_faultIn 17 = .ok (.putfield 34, 3) := by decide +kernel
theorem dX2_faultIn_20 : decode cX2_faultIn 20 = .ok (.aload_n 0, 1) := by decide +kernel
theorem dX2_faultIn_21 : decode cX2_faultIn 21 = .ok (.iconst 1, 1) := by decide +kernel
theorem dX2_faultIn_22 : decode cX2_faultIn 22 = .ok (.putfield 37, 3) := by decide +kernel
theorem dX2_faultIn_25 : decode cX2_faultIn 25 = .ok (.aload_n 0, 1) := by decide +kernel
theorem dX2_faultIn_26 : decode cX2_faultIn 26 = .ok (.iconst 0, 1) := by decide +kernel
theorem dX2_faultIn_27 : decode cX2_faultIn 27 = .ok (.putfield 41, 3) := by decide +kernel
theorem dX2_faultIn_30 : decode cX2_faultIn 30 = .ok (.aload_n 0, 1) := by decide +kernel
theorem dX2_faultIn_31 : decode cX2_faultIn 31 = .ok (.iload_n 3, 1) := by decide +kernel
theorem dX2_faultIn_32 : decode cX2_faultIn 32 = .ok (.ifCond .ne 8, 3) := by decide +kernel
theorem dX2_faultIn_35 : decode cX2_faultIn 35 = .ok (.ldc 18, 2) := by decide +kernel
theorem dX2_faultIn_37 : decode cX2_faultIn 37 = .ok (.goto 5, 3) := by decide +kernel
theorem dX2_faultIn_40 : decode cX2_faultIn 40 = .ok (.ldc 44, 2) := by decide +kernel
theorem dX2_faultIn_42 : decode cX2_faultIn 42 = .ok (.putfield 20, 3) := by decide +kernel
theorem dX2_faultIn_45 : decode cX2_faultIn 45 = .ok (.iconst 0, 1) := by decide +kernel
theorem dX2_faultIn_46 : decode cX2_faultIn 46 = .ok (.istore 4, 2) := by decide +kernel
theorem dX2_faultIn_48 : decode cX2_faultIn 48 = .ok (.iload 4, 2) := by decide +kernel
theorem dX2_faultIn_50 : decode cX2_faultIn 50 = .ok (.iload_n 2, 1) := by decide +kernel
theorem dX2_faultIn_51 : decode cX2_faultIn 51 = .ok (.if_icmp .ge 23, 3) := by decide +kernel
theorem dX2_faultIn_54 : decode cX2_faultIn 54 = .ok (.aload_n 0, 1) := by decide +kernel
theorem dX2_faultIn_55 : decode cX2_faultIn 55 = .ok (.aload_n 1, 1) := by decide +kernel
theorem dX2_faultIn_56 : decode cX2_faultIn 56 = .ok (.iload 4, 2) := by decide +kernel
theorem dX2_faultIn_58 : decode cX2_faultIn 58 = .ok (.iaload, 1) := by decide +kernel
theorem dX2_faultIn_59 : decode cX2_faultIn 59 = .ok (.invokevirtual 46, 3) := by decide +kernel
theorem dX2_faultIn_62 : decode cX2_faultIn 62 = .ok (.ifCond .ne 6, 3) := by decide +kernel
theorem dX2_faultIn_65 : decode cX2_faultIn 65 = .ok (.iload 4, 2) := by decide +kernel
theorem dX2_faultIn_67 : decode cX2_faultIn 67 = .ok (.ireturn, 1) := by decide +kernel
theorem dX2_faultIn_68 : decode cX2_faultIn 68 = .ok (.iinc 4 1, 3) := by decide +kernel
theorem dX2_faultIn_71 : decode cX2_faultIn 71 = .ok (.goto (-23), 3) := by decide +kernel
theorem dX2_faultIn_74 : decode cX2_faultIn 74 = .ok (.aload_n 0, 1) := by decide +kernel
theorem dX2_faultIn_75 : decode cX2_faultIn 75 = .ok (.getfield 37, 3) := by decide +kernel
theorem dX2_faultIn_78 : decode cX2_faultIn 78 = .ok (.ifCond .ne 10, 3) := by decide +kernel
theorem dX2_faultIn_81 : decode cX2_faultIn 81 = .ok (.aload_n 0, 1) := by decide +kernel
theorem dX2_faultIn_82 : decode cX2_faultIn 82 = .ok (.getfield 34, 3) := by decide +kernel
theorem dX2_faultIn_85 : decode cX2_faultIn 85 = .ok (.ifCond .le 5, 3) := by decide +kernel
theorem dX2_faultIn_88 : decode cX2_faultIn 88 = .ok (.iload_n 2, 1) := by decide +kernel
theorem dX2_faultIn_89 : decode cX2_faultIn 89 = .ok (.ireturn, 1) := by decide +kernel
theorem dX2_faultIn_90 : decode cX2_faultIn 90 = .ok (.aload_n 0, 1) := by decide +kernel
theorem dX2_faultIn_91 : decode cX2_faultIn 91 = .ok (.iconst 1, 1) := by decide +kernel
theorem dX2_faultIn_92 : decode cX2_faultIn 92 = .ok (.invokevirtual 50, 3) := by decide +kernel
theorem dX2_faultIn_95 : decode cX2_faultIn 95 = .ok (.iconst (-1), 1) := by decide +kernel
theorem dX2_faultIn_96 : decode cX2_faultIn 96 = .ok (.ireturn, 1) := by decide +kernel
theorem dX2_takes_0 : decode cX2_takes 0 = .ok (.iload_n 1, 1) := by decide +kernel
theorem dX2_takes_1 : decode cX2_takes 1 = .ok (.bipush 48, 2) := by decide +kernel
theorem dX2_takes_3 : decode cX2_takes 3 = .ok (.bipush 57, 2) := by decide +kernel
theorem dX2_takes_5 : decode cX2_takes 5 = .ok (.invokestatic 54, 3) := by decide +kernel
theorem dX2_takes_8 : decode cX2_takes 8 = .ok (.ifCond .eq 12, 3) := by decide +kernel
theorem dX2_takes_11 : decode cX2_takes 11 = .ok (.aload_n 0, 1) := by decide +kernel
theorem dX2_takes_12 : decode cX2_takes 12 = .ok (.iload_n 1, 1) := by decide +kernel
theorem dX2_takes_13 : decode cX2_takes 13 = .ok (.bipush 48, 2) := by decide +kernel
theorem dX2_takes_15 : decode cX2_takes 15 = .ok (.isub, 1) := by decide +kernel
theorem dX2_takes_16 : decode cX2_takes 16 = .ok (.invokevirtual 58, 3) := by decide +kernel
theorem dX2_takes_19 : decode cX2_takes 19 = .ok (.ireturn, 1) := by decide +kernel
theorem dX2_takes_20 : decode cX2_takes 20 = .ok (.aload_n 0, 1) := by decide +kernel
theorem dX2_takes_21 : decode cX2_takes 21 = .ok (.iconst 0, 1) := by decide +kernel
theorem dX2_takes_22 : decode cX2_takes 22 = .ok (.putfield 41, 3) := by decide +kernel
theorem dX2_takes_25 : decode cX2_takes 25 = .ok (.aload_n 0, 1) := by decide +kernel
theorem dX2_takes_26 : decode cX2_takes 26 = .ok (.getfield 37, 3) := by decide +kernel
theorem dX2_takes_29 : decode cX2_takes 29 = .ok (.ifCond .eq 29, 3) := by decide +kernel
theorem dX2_takes_32 : decode cX2_takes 32 = .ok (.iload_n 1, 1) := by decide +kernel
theorem dX2_takes_33 : decode cX2_takes 33 = .ok (.bipush 33, 2) := by decide +kernel
theorem dX2_takes_35 : decode cX2_takes 35 = .ok (.if_icmp .eq 9, 3) := by decide +kernel
theorem dX2_takes_38 : decode cX2_takes 38 = .ok (.iload_n 1, 1) := by decide +kernel
theorem dX2_takes_39 : decode cX2_takes 39 = .ok (.bipush 40, 2) := by decide +kernel
theorem dX2_takes_41 : decode cX2_takes 41 = .ok (.if_icmp .ne 11, 3) := by decide +kernel
theorem dX2_takes_44 : decode cX2_takes 44 = .ok (.aload_n 0, 1) := by decide +kernel
theorem dX2_takes_45 : decode cX2_takes 45 = .ok (.iload_n 1, 1) := by decide +kernel
theorem dX2_takes_46 : decode cX2_takes 46 = .ok (.invokevirtual 61, 3) := by decide +kernel
theorem dX2_takes_49 : decode cX2_takes 49 = .ok (.goto 8, 3) := by decide +kernel
theorem dX2_takes_52 : decode cX2_takes 52 = .ok (.aload_n 0, 1) := by decide +kernel
theorem dX2_takes_53 : decode cX2_takes 53 = .ok (.iload_n 1, 1) := by decide +kernel
theorem dX2_takes_54 : decode cX2_takes 54 = .ok (.invokevirtual 64, 3) := by decide +kernel
theorem dX2_takes_57 : decode cX2_takes 57 = .ok (.ireturn, 1) := by decide +kernel
theorem dX2_takes_58 : decode cX2_takes 58 = .ok (.iload_n 1, 1) := by decide +kernel
theorem dX2_takes_59 : decode cX2_takes 59 = .ok (.bipush 41, 2) := by decide +kernel
theorem dX2_takes_61 : decode cX2_takes 61 = .ok (.if_icmp .ne 10, 3) := by decide +kernel
theorem dX2_takes_64 : decode cX2_takes 64 = .ok (.aload_n 0, 1) := by decide +kernel
theorem dX2_takes_65 : decode cX2_takes 65 = .ok (.invokevirtual 67, 3) := by decide +kernel
theorem dX2_takes_68 : decode cX2_takes 68 = .ok (.goto 8, 3) := by decide +kernel
theorem dX2_takes_71 : decode cX2_takes 71 = .ok (.aload_n 0, 1) := by decide +kernel
theorem dX2_takes_72 : decode cX2_takes 72 = .ok (.iload_n 1, 1) := by decide +kernel
theorem dX2_takes_73 : decode cX2_takes 73 = .ok (.invokevirtual 71, 3) := by decide +kernel
theorem dX2_takes_76 : decode cX2_takes 76 = .ok (.ireturn, 1) := by decide +kernel
theorem dX2_takesDigit_0 : decode cX2_takesDigit 0 = .ok (.aload_n 0, 1) := by decide +kernel
theorem dX2_takesDigit_1 : decode cX2_takesDigit 1 = .ok (.getfield 37, 3) := by decide +kernel
theorem dX2_takesDigit_4 : decode cX2_takesDigit 4 = .ok (.ifCond .eq 20, 3) := by decide +kernel
theorem dX2_takesDigit_7 : decode cX2_takesDigit 7 = .ok (.aload_n 0, 1) := by decide +kernel
theorem dX2_takesDigit_8 : decode cX2_takesDigit 8 = .ok (.iload_n 1, 1) := by decide +kernel
theorem dX2_takesDigit_9 : decode cX2_takesDigit 9 = .ok (.invokevirtual 74, 3) := by decide +kernel
theorem dX2_takesDigit_12 : decode cX2_takesDigit 12 = .ok (.aload_n 0, 1) := by decide +kernel
theorem dX2_takesDigit_13 : decode cX2_takesDigit 13 = .ok (.iconst 0, 1) := by decide +kernel
theorem dX2_takesDigit_14 : decode cX2_takesDigit 14 = .ok (.putfield 37, 3) := by decide +kernel
theorem dX2_takesDigit_17 : decode cX2_takesDigit 17 = .ok (.aload_n 0, 1) := by decide +kernel
theorem dX2_takesDigit_18 : decode cX2_takesDigit 18 = .ok (.iconst 1, 1) := by decide +kernel
theorem dX2_takesDigit_19 : decode cX2_takesDigit 19 = .ok (.putfield 41, 3) := by decide +kernel
theorem dX2_takesDigit_22 : decode cX2_takesDigit 22 = .ok (.iconst 1, 1) := by decide +kernel
theorem dX2_takesDigit_23 : decode cX2_takesDigit 23 = .ok (.ireturn, 1) := by decide +kernel
theorem dX2_takesDigit_24 : decode cX2_takesDigit 24 = .ok (.aload_n 0, 1) := by decide +kernel
theorem dX2_takesDigit_25 : decode cX2_takesDigit 25 = .ok (.getfield 41, 3) := by decide +kernel
theorem dX2_takesDigit_28 : decode cX2_takesDigit 28 = .ok (.ifCond .eq 18, 3) := by decide +kernel
theorem dX2_takesDigit_31 : decode cX2_takesDigit 31 = .ok (.aload_n 0, 1) := by decide +kernel
theorem dX2_takesDigit_32 : decode cX2_takesDigit 32 = .ok (.getfield 41, 3) := by decide +kernel
theorem dX2_takesDigit_35 : decode cX2_takesDigit 35 = .ok (.iconst 4, 1) := by decide +kernel
theorem dX2_takesDigit_36 : decode cX2_takesDigit 36 = .ok (.if_icmp .eq 10, 3) := by decide +kernel
theorem dX2_takesDigit_39 : decode cX2_takesDigit 39 = .ok (.aload_n 0, 1) := by decide +kernel
theorem dX2_takesDigit_40 : decode cX2_takesDigit 40 = .ok (.getfield 24, 3) := by decide +kernel
theorem dX2_takesDigit_43 : decode cX2_takesDigit 43 = .ok (.ifCond .ne 5, 3) := by decide +kernel
theorem dX2_takesDigit_46 : decode cX2_takesDigit 46 = .ok (.iconst 0, 1) := by decide +kernel
theorem dX2_takesDigit_47 : decode cX2_takesDigit 47 = .ok (.ireturn, 1) := by decide +kernel
theorem dX2_takesDigit_48 : decode cX2_takesDigit 48 = .ok (.aload_n 0, 1) := by decide +kernel
theorem dX2_takesDigit_49 : decode cX2_takesDigit 49 = .ok (.getfield 9, 3) := by decide +kernel
theorem dX2_takesDigit_52 : decode cX2_takesDigit 52 = .ok (.aload_n 0, 1) := by decide +kernel
theorem dX2_takesDigit_53 : decode cX2_takesDigit 53 = .ok (.getfield 24, 3) := by decide +kernel
theorem dX2_takesDigit_56 : decode cX2_takesDigit 56 = .ok (.iconst 1, 1) := by decide +kernel
theorem dX2_takesDigit_57 : decode cX2_takesDigit 57 = .ok (.isub, 1) := by decide +kernel
theorem dX2_takesDigit_58 : decode cX2_takesDigit 58 = .ok (.aload_n 0, 1) := by decide +kernel
theorem dX2_takesDigit_59 : decode cX2_takesDigit 59 = .ok (.getfield 9, 3) := by decide +kernel
theorem dX2_takesDigit_62 : decode cX2_takesDigit 62 = .ok (.aload_n 0, 1) := by decide +kernel
theorem dX2_takesDigit_63 : decode cX2_takesDigit 63 = .ok (.getfield 24, 3) := by decide +kernel
theorem dX2_takesDigit_66 : decode cX2_takesDigit 66 = .ok (.iconst 1, 1) := by decide +kernel
theorem dX2_takesDigit_67 : decode cX2_takesDigit 67 = .ok (.isub, 1) := by decide +kernel
theorem dX2_takesDigit_68 : decode cX2_takesDigit 68 = .ok (.iaload, 1) := by decide +kernel
theorem dX2_takesDigit_69 : decode cX2_takesDigit 69 = .ok (.bipush 10, 2) := by decide +kernel
theorem dX2_takesDigit_71 : decode cX2_takesDigit 71 = .ok (.imul, 1) := by decide +kernel
theorem dX2_takesDigit_72 : decode cX2_takesDigit 72 = .ok (.iload_n 1, 1) := by decide +kernel
theorem dX2_takesDigit_73 : decode cX2_takesDigit 73 = .ok (.iadd, 1) := by decide +kernel
theorem dX2_takesDigit_74 : decode cX2_takesDigit 74 = .ok (.iastore, 1) := by decide +kernel
theorem dX2_takesDigit_75 : decode cX2_takesDigit 75 = .ok (.aload_n 0, 1) := by decide +kernel
theorem dX2_takesDigit_76 : decode cX2_takesDigit 76 = .ok (.dup, 1) := by decide +kernel
theorem dX2_takesDigit_77 : decode cX2_takesDigit 77 = .ok (.getfield 41, 3) := by decide +kernel
theorem dX2_takesDigit_80 : decode cX2_takesDigit 80 = .ok (.iconst 1, 1) := by decide +kernel
theorem dX2_takesDigit_81 : decode cX2_takesDigit 81 = .ok (.iadd, 1) := by decide +kernel
theorem dX2_takesDigit_82 : decode cX2_takesDigit 82 = .ok (.putfield 41, 3) := by decide +kernel
theorem dX2_takesDigit_85 : decode cX2_takesDigit 85 = .ok (.iconst 1, 1) := by decide +kernel
theorem dX2_takesDigit_86 : decode cX2_takesDigit 86 = .ok (.ireturn, 1) := by decide +kernel
theorem dX2_takesName_0 : decode cX2_takesName 0 = .ok (.aload_n 0, 1) := by decide +kernel
theorem dX2_takesName_1 : decode cX2_takesName 1 = .ok (.getfield 20, 3) := by decide +kernel
theorem dX2_takesName_4 : decode cX2_takesName 4 = .ok (.iload_n 1, 1) := by decide +kernel
theorem dX2_takesName_5 : decode cX2_takesName 5 = .ok (.i2c, 1) := by decide +kernel
theorem dX2_takesName_6 : decode cX2_takesName 6 = .ok (.invokevirtual 77, 3) := by decide +kernel
theorem dX2_takesName_9 : decode cX2_takesName 9 = .ok (.istore_n 2, 1) := by decide +kernel
theorem dX2_takesName_10 : decode cX2_takesName 10 = .ok (.iload_n 2, 1) := by decide +kernel
theorem dX2_takesName_11 : decode cX2_takesName 11 = .ok (.ifCond .ge 5, 3) := by decide +kernel
theorem dX2_takesName_14 : decode cX2_takesName 14 = .ok (.iconst 0, 1) := by decide +kernel
theorem dX2_takesName_15 : decode cX2_takesName 15 = .ok (.ireturn, 1) := by decide +kernel
theorem dX2_takesName_16 : decode cX2_takesName 16 = .ok (.aload_n 0, 1) := by decide +kernel
theorem dX2_takesName_17 : decode cX2_takesName 17 = .ok (.iconst (-1), 1) := by decide +kernel
theorem dX2_takesName_18 : decode cX2_takesName 18 = .ok (.iload_n 2, 1) := by decide +kernel
theorem dX2_takesName_19 : decode cX2_takesName 19 = .ok (.isub, 1) := by decide +kernel
theorem dX2_takesName_20 : decode cX2_takesName 20 = .ok (.invokevirtual 74, 3) := by decide +kernel
theorem dX2_takesName_23 : decode cX2_takesName 23 = .ok (.aload_n 0, 1) := by decide +kernel
theorem dX2_takesName_24 : decode cX2_takesName 24 = .ok (.iconst 0, 1) := by decide +kernel
theorem dX2_takesName_25 : decode cX2_takesName 25 = .ok (.putfield 37, 3) := by decide +kernel
theorem dX2_takesName_28 : decode cX2_takesName 28 = .ok (.iconst 1, 1) := by decide +kernel
theorem dX2_takesName_29 : decode cX2_takesName 29 = .ok (.ireturn, 1) := by decide +kernel
theorem dX2_opens_0 : decode cX2_opens 0 = .ok (.aload_n 0, 1) := by decide +kernel
theorem dX2_opens_1 : decode cX2_opens 1 = .ok (.getfield 31, 3) := by decide +kernel
theorem dX2_opens_4 : decode cX2_opens 4 = .ok (.iconst 5, 1) := by decide +kernel
theorem dX2_opens_5 : decode cX2_opens 5 = .ok (.if_icmp .ne 5, 3) := by decide +kernel
theorem dX2_opens_8 : decode cX2_opens 8 = .ok (.iconst 0, 1) := by decide +kernel
theorem dX2_opens_9 : decode cX2_opens 9 = .ok (.ireturn, 1) := by decide +kernel
theorem dX2_opens_10 : decode cX2_opens 10 = .ok (.aload_n 0, 1) := by decide +kernel
theorem dX2_opens_11 : decode cX2_opens 11 = .ok (.dup, 1) := by decide +kernel
theorem dX2_opens_12 : decode cX2_opens 12 = .ok (.getfield 31, 3) := by decide +kernel
theorem dX2_opens_15 : decode cX2_opens 15 = .ok (.iconst 1, 1) := by decide +kernel
theorem dX2_opens_16 : decode cX2_opens 16 = .ok (.iadd, 1) := by decide +kernel
theorem dX2_opens_17 : decode cX2_opens 17 = .ok (.putfield 31, 3) := by decide +kernel
theorem dX2_opens_20 : decode cX2_opens 20 = .ok (.iload_n 1, 1) := by decide +kernel
theorem dX2_opens_21 : decode cX2_opens 21 = .ok (.bipush 40, 2) := by decide +kernel
theorem dX2_opens_23 : decode cX2_opens 23 = .ok (.if_icmp .ne 13, 3) := by decide +kernel
theorem dX2_opens_26 : decode cX2_opens 26 = .ok (.aload_n 0, 1) := by decide +kernel
theorem dX2_opens_27 : decode cX2_opens 27 = .ok (.dup, 1) := by decide +kernel
theorem dX2_opens_28 : decode cX2_opens 28 = .ok (.getfield 34, 3) := by decide +kernel
theorem dX2_opens_31 : decode cX2_opens 31 = .ok (.iconst 1, 1) := by decide +kernel
theorem dX2_opens_32 : decode cX2_opens 32 = .ok (.iadd, 1) := by decide +kernel
theorem dX2_opens_33 : decode cX2_opens 33 = .ok (.putfield 34, 3) := by decide +kernel
theorem dX2_opens_36 : decode cX2_opens 36 = .ok (.aload_n 0, 1) := by decide +kernel
theorem dX2_opens_37 : decode cX2_opens 37 = .ok (.iload_n 1, 1) := by decide +kernel
theorem dX2_opens_38 : decode cX2_opens 38 = .ok (.invokevirtual 83, 3) := by decide +kernel
theorem dX2_opens_41 : decode cX2_opens 41 = .ok (.iconst 1, 1) := by decide +kernel
theorem dX2_opens_42 : decode cX2_opens 42 = .ok (.ireturn, 1) := by decide +kernel
theorem dX2_closes_0 : decode cX2_closes 0 = .ok (.aload_n 0, 1) := by decide +kernel
theorem dX2_closes_1 : decode cX2_closes 1 = .ok (.getfield 34, 3) := by decide +kernel
theorem dX2_closes_4 : decode cX2_closes 4 = .ok (.ifCond .ne 5, 3) := by decide +kernel
theorem dX2_closes_7 : decode cX2_closes 7 = .ok (.iconst 0, 1) := by decide +kernel
theorem dX2_closes_8 : decode cX2_closes 8 = .ok (.ireturn, 1) := by decide +kernel
theorem dX2_closes_9 : decode cX2_closes 9 = .ok (.aload_n 0, 1) := by decide +kernel
theorem dX2_closes_10 : decode cX2_closes 10 = .ok (.iconst 1, 1) := by decide +kernel
theorem dX2_closes_11 : decode cX2_closes 11 = .ok (.invokevirtual 50, 3) := by decide +kernel
theorem dX2_closes_14 : decode cX2_closes 14 = .ok (.aload_n 0, 1) := by decide +kernel
theorem dX2_closes_15 : decode cX2_closes 15 = .ok (.dup, 1) := by decide +kernel
theorem dX2_closes_16 : decode cX2_closes 16 = .ok (.getfield 28, 3) := by decide +kernel
theorem dX2_closes_19 : decode cX2_closes 19 = .ok (.iconst 1, 1) := by decide +kernel
theorem dX2_closes_20 : decode cX2_closes 20 = .ok (.isub, 1) := by decide +kernel
theorem dX2_closes_21 : decode cX2_closes 21 = .ok (.putfield 28, 3) := by decide +kernel
theorem dX2_closes_24 : decode cX2_closes 24 = .ok (.aload_n 0, 1) := by decide +kernel
theorem dX2_closes_25 : decode cX2_closes 25 = .ok (.dup, 1) := by decide +kernel
theorem dX2_closes_26 : decode cX2_closes 26 = .ok (.getfield 34, 3) := by decide +kernel
theorem dX2_closes_29 : decode cX2_closes 29 = .ok (.iconst 1, 1) := by decide +kernel
theorem dX2_closes_30 : decode cX2_closes 30 = .ok (.isub, 1) := by decide +kernel
theorem dX2_closes_31 : decode cX2_closes 31 = .ok (.putfield 34, 3) := by decide +kernel
theorem dX2_closes_34 : decode cX2_closes 34 = .ok (.aload_n 0, 1) := by decide +kernel
theorem dX2_closes_35 : decode cX2_closes 35 = .ok (.dup, 1) := by decide +kernel
theorem dX2_closes_36 : decode cX2_closes 36 = .ok (.getfield 31, 3) := by decide +kernel
theorem dX2_closes_39 : decode cX2_closes 39 = .ok (.iconst 1, 1) := by decide +kernel
theorem dX2_closes_40 : decode cX2_closes 40 = .ok (.isub, 1) := by decide +kernel
theorem dX2_closes_41 : decode cX2_closes 41 = .ok (.putfield 31, 3) := by decide +kernel
theorem dX2_closes_44 : decode cX2_closes 44 = .ok (.iconst 1, 1) := by decide +kernel
theorem dX2_closes_45 : decode cX2_closes 45 = .ok (.ireturn, 1) := by decide +kernel
theorem dX2_takesSign_0 : decode cX2_takesSign 0 = .ok (.iload_n 1, 1) := by decide +kernel
theorem dX2_takesSign_1 : decode cX2_takesSign 1 = .ok (.invokestatic 86, 3) := by decide +kernel
theorem dX2_takesSign_4 : decode cX2_takesSign 4 = .ok (.istore_n 2, 1) := by decide +kernel
theorem dX2_takesSign_5 : decode cX2_takesSign 5 = .ok (.iload_n 2, 1) := by decide +kernel
theorem dX2_takesSign_6 : decode cX2_takesSign 6 = .ok (.ifCond .ne 5, 3) := by decide +kernel
theorem dX2_takesSign_9 : decode cX2_takesSign 9 = .ok (.iconst 0, 1) := by decide +kernel
theorem dX2_takesSign_10 : decode cX2_takesSign 10 = .ok (.ireturn, 1) := by decide +kernel
theorem dX2_takesSign_11 : decode cX2_takesSign 11 = .ok (.aload_n 0, 1) := by decide +kernel
theorem dX2_takesSign_12 : decode cX2_takesSign 12 = .ok (.iload_n 2, 1) := by decide +kernel
theorem dX2_takesSign_13 : decode cX2_takesSign 13 = .ok (.iconst 3, 1) := by decide +kernel
theorem dX2_takesSign_14 : decode cX2_takesSign 14 = .ok (.if_icmp .ne 9, 3) := by decide +kernel
theorem dX2_takesSign_17 : decode cX2_takesSign 17 = .ok (.iload_n 2, 1) := by decide +kernel
theorem dX2_takesSign_18 : decode cX2_takesSign 18 = .ok (.iconst 1, 1) := by decide +kernel
theorem dX2_takesSign_19 : decode cX2_takesSign 19 = .ok (.iadd, 1) := by decide +kernel
theorem dX2_takesSign_20 : decode cX2_takesSign 20 = .ok (.goto 4, 3) := by decide +kernel
theorem dX2_takesSign_23 : decode cX2_takesSign 23 = .ok (.iload_n 2, 1) := by decide +kernel
theorem dX2_takesSign_24 : decode cX2_takesSign 24 = .ok (.invokevirtual 50, 3) := by decide +kernel
theorem dX2_takesSign_27 : decode cX2_takesSign 27 = .ok (.iload_n 2, 1) := by decide +kernel
theorem dX2_takesSign_28 : decode cX2_takesSign 28 = .ok (.iconst 3, 1) := by decide +kernel
theorem dX2_takesSign_29 : decode cX2_takesSign 29 = .ok (.if_icmp .ne 30, 3) := by decide +kernel
theorem dX2_takesSign_32 : decode cX2_takesSign 32 = .ok (.aload_n 0, 1) := by decide +kernel
theorem dX2_takesSign_33 : decode cX2_takesSign 33 = .ok (.getfield 28, 3) := by decide +kernel
theorem dX2_takesSign_36 : decode cX2_takesSign 36 = .ok (.ifCond .le 23, 3) := by decide +kernel
theorem dX2_takesSign_39 : decode cX2_takesSign 39 = .ok (.aload_n 0, 1) := by decide +kernel
theorem dX2_takesSign_40 : decode cX2_takesSign 40 = .ok (.getfield 15, 3) := by decide +kernel
theorem dX2_takesSign_43 : decode cX2_takesSign 43 = .ok (.aload_n 0, 1) := by decide +kernel
theorem dX2_takesSign_44 : decode cX2_takesSign 44 = .ok (.getfield 28, 3) := by decide +kernel
theorem dX2_takesSign_47 : decode cX2_takesSign 47 = .ok (.iconst 1, 1) := by decide +kernel
theorem dX2_takesSign_48 : decode cX2_takesSign 48 = .ok (.isub, 1) := by decide +kernel
theorem dX2_takesSign_49 : decode cX2_takesSign 49 = .ok (.iaload, 1) := by decide +kernel
theorem dX2_takesSign_50 : decode cX2_takesSign 50 = .ok (.invokestatic 86, 3) := by decide +kernel
theorem dX2_takesSign_53 : decode cX2_takesSign 53 = .ok (.iconst 3, 1) := by decide +kernel
theorem dX2_takesSign_54 : decode cX2_takesSign 54 = .ok (.if_icmp .ne 5, 3) := by decide +kernel
theorem dX2_takesSign_57 : decode cX2_takesSign 57 = .ok (.iconst 0, 1) := by decide +kernel
theorem dX2_takesSign_58 : decode cX2_takesSign 58 = .ok (.ireturn, 1) := by decide +kernel
theorem dX2_takesSign_59 : decode cX2_takesSign 59 = .ok (.aload_n 0, 1) := by decide +kernel
theorem dX2_takesSign_60 : decode cX2_takesSign 60 = .ok (.iload_n 1, 1) := by decide +kernel
theorem dX2_takesSign_61 : decode cX2_takesSign 61 = .ok (.invokevirtual 83, 3) := by decide +kernel
theorem dX2_takesSign_64 : decode cX2_takesSign 64 = .ok (.aload_n 0, 1) := by decide +kernel
theorem dX2_takesSign_65 : decode cX2_takesSign 65 = .ok (.iconst 1, 1) := by decide +kernel
theorem dX2_takesSign_66 : decode cX2_takesSign 66 = .ok (.putfield 37, 3) := by decide +kernel
theorem dX2_takesSign_69 : decode cX2_takesSign 69 = .ok (.iconst 1, 1) := by decide +kernel
theorem dX2_takesSign_70 : decode cX2_takesSign 70 = .ok (.ireturn, 1) := by decide +kernel
theorem dX2_release_0 : decode cX2_release 0 = .ok (.aload_n 0, 1) := by decide +kernel
theorem dX2_release_1 : decode cX2_release 1 = .ok (.getfield 28, 3) := by decide +kernel
theorem dX2_release_4 : decode cX2_release 4 = .ok (.iconst 1, 1) := by decide +kernel
theorem dX2_release_5 : decode cX2_release 5 = .ok (.isub, 1) := by decide +kernel
theorem dX2_release_6 : decode cX2_release 6 = .ok (.istore_n 2, 1) := by decide +kernel
theorem dX2_release_7 : decode cX2_release 7 = .ok (.iload_n 2, 1) := by decide +kernel
theorem dX2_release_8 : decode cX2_release 8 = .ok (.ifCond .lt 72, 3) := by decide +kernel
theorem dX2_release_11 : decode cX2_release 11 = .ok (.aload_n 0, 1) := by decide +kernel
theorem dX2_release_12 : decode cX2_release 12 = .ok (.getfield 15, 3) := by decide +kernel
theorem dX2_release_15 : decode cX2_release 15 = .ok (.iload_n 2, 1) := by decide +kernel
theorem dX2_release_16 : decode cX2_release 16 = .ok (.iaload, 1) := by decide +kernel
theorem dX2_release_17 : decode cX2_release 17 = .ok (.istore_n 3, 1) := by decide +kernel
theorem dX2_release_18 : decode cX2_release 18 = .ok (.iload_n 3, 1) := by decide +kernel
theorem dX2_release_19 : decode cX2_release 19 = .ok (.bipush 33, 2) := by decide +kernel
theorem dX2_release_21 : decode cX2_release 21 = .ok (.if_icmp .ne 8, 3) := by decide +kernel
theorem dX2_release_24 : decode cX2_release 24 = .ok (.bipush 6, 2) := by decide +kernel
theorem dX2_release_26 : decode cX2_release 26 = .ok (.goto 7, 3) := by decide +kernel
theorem dX2_release_29 : decode cX2_release 29 = .ok (.iload_n 3, 1) := by decide +kernel
theorem dX2_release_30 : decode cX2_release 30 = .ok (.invokestatic 86, 3) := by decide +kernel
theorem dX2_release_33 : decode cX2_release 33 = .ok (.istore 4, 2) := by decide +kernel
theorem dX2_release_35 : decode cX2_release 35 = .ok (.iload 4, 2) := by decide +kernel
theorem dX2_release_37 : decode cX2_release 37 = .ok (.iload_n 1, 1) := by decide +kernel
theorem dX2_release_38 : decode cX2_release 38 = .ok (.if_icmp .ge 4, 3) := by decide +kernel
theorem dX2_release_41 : decode cX2_release 41 = .ok (.return_, 1) := by decide +kernel
theorem dX2_release_42 : decode cX2_release 42 = .ok (.iload_n 3, 1) := by decide +kernel
theorem dX2_release_43 : decode cX2_release 43 = .ok (.bipush 33, 2) := by decide +kernel
theorem dX2_release_45 : decode cX2_release 45 = .ok (.if_icmp .ne 13, 3) := by decide +kernel
theorem dX2_release_48 : decode cX2_release 48 = .ok (.aload_n 0, 1) := by decide +kernel
theorem dX2_release_49 : decode cX2_release 49 = .ok (.dup, 1) := by decide +kernel
theorem dX2_release_50 : decode cX2_release 50 = .ok (.getfield 31, 3) := by decide +kernel
theorem dX2_release_53 : decode cX2_release 53 = .ok (.iconst 1, 1) := by decide +kernel
theorem dX2_release_54 : decode cX2_release 54 = .ok (.isub, 1) := by decide +kernel
theorem dX2_release_55 : decode cX2_release 55 = .ok (.putfield 31, 3) := by decide +kernel
theorem dX2_release_58 : decode cX2_release 58 = .ok (.aload_n 0, 1) := by decide +kernel
theorem dX2_release_59 : decode cX2_release 59 = .ok (.iload_n 3, 1) := by decide +kernel
theorem dX2_release_60 : decode cX2_release 60 = .ok (.ineg, 1) := by decide +kernel
theorem dX2_release_61 : decode cX2_release 61 = .ok (.invokevirtual 74, 3) := by decide +kernel
theorem dX2_release_64 : decode cX2_release 64 = .ok (.aload_n 0, 1) := by decide +kernel
theorem dX2_release_65 : decode cX2_release 65 = .ok (.dup, 1) := by decide +kernel
theorem dX2_release_66 : decode cX2_release 66 = .ok (.getfield 28, 3) := by decide +kernel
theorem dX2_release_69 : decode cX2_release 69 = .ok (.iconst 1, 1) := by decide +kernel
theorem dX2_release_70 : decode cX2_release 70 = .ok (.isub, 1) := by decide +kernel
theorem dX2_release_71 : decode cX2_release 71 = .ok (.putfield 28, 3) := by decide +kernel
theorem dX2_release_74 : decode cX2_release 74 = .ok (.iinc 2 (-1), 3) := by decide +kernel
theorem dX2_release_77 : decode cX2_release 77 = .ok (.goto (-70), 3) := by decide +kernel
theorem dX2_release_80 : decode cX2_release 80 = .ok (.return_, 1) := by decide +kernel
theorem dX2_emit_0 : decode cX2_emit 0 = .ok (.aload_n 0, 1) := by decide +kernel
theorem dX2_emit_1 : decode cX2_emit 1 = .ok (.getfield 24, 3) := by decide +kernel
theorem dX2_emit_4 : decode cX2_emit 4 = .ok (.aload_n 0, 1) := by decide +kernel
theorem dX2_emit_5 : decode cX2_emit 5 = .ok (.getfield 9, 3) := by decide +kernel
theorem dX2_emit_8 : decode cX2_emit 8 = .ok (.arraylength, 1) := by decide +kernel
theorem dX2_emit_9 : decode cX2_emit 9 = .ok (.if_icmp .ge 23, 3) := by decide +kernel
theorem dX2_emit_12 : decode cX2_emit 12 = .ok (.aload_n 0, 1) := by decide +kernel
theorem dX2_emit_13 : decode cX2_emit 13 = .ok (.getfield 9, 3) := by decide +kernel
theorem dX2_emit_16 : decode cX2_emit 16 = .ok (.aload_n 0, 1) := by decide +kernel
theorem dX2_emit_17 : decode cX2_emit 17 = .ok (.getfield 24, 3) := by decide +kernel
theorem dX2_emit_20 : decode cX2_emit 20 = .ok (.iload_n 1, 1) := by decide +kernel
theorem dX2_emit_21 : decode cX2_emit 21 = .ok (.iastore, 1) := by decide +kernel
theorem dX2_emit_22 : decode cX2_emit 22 = .ok (.aload_n 0, 1) := by decide +kernel
theorem dX2_emit_23 : decode cX2_emit 23 = .ok (.dup, 1) := by decide +kernel
theorem dX2_emit_24 : decode cX2_emit 24 = .ok (.getfield 24, 3) := by decide +kernel
theorem dX2_emit_27 : decode cX2_emit 27 = .ok (.iconst 1, 1) := by decide +kernel
theorem dX2_emit_28 : decode cX2_emit 28 = .ok (.iadd, 1) := by decide +kernel
theorem dX2_emit_29 : decode cX2_emit 29 = .ok (.putfield 24, 3) := by decide +kernel
theorem dX2_emit_32 : decode cX2_emit 32 = .ok (.return_, 1) := by decide +kernel
theorem dX2_push_0 : decode cX2_push 0 = .ok (.aload_n 0, 1) := by decide +kernel
theorem dX2_push_1 : decode cX2_push 1 = .ok (.getfield 28, 3) := by decide +kernel
theorem dX2_push_4 : decode cX2_push 4 = .ok (.aload_n 0, 1) := by decide +kernel
theorem dX2_push_5 : decode cX2_push 5 = .ok (.getfield 15, 3) := by decide +kernel
theorem dX2_push_8 : decode cX2_push 8 = .ok (.arraylength, 1) := by decide +kernel
theorem dX2_push_9 : decode cX2_push 9 = .ok (.if_icmp .ge 23, 3) := by decide +kernel
theorem dX2_push_12 : decode cX2_push 12 = .ok (.aload_n 0, 1) := by decide +kernel
theorem dX2_push_13 : decode cX2_push 13 = .ok (.getfield 15, 3) := by decide +kernel
theorem dX2_push_16 : decode cX2_push 16 = .ok (.aload_n 0, 1) := by decide +kernel
theorem dX2_push_17 : decode cX2_push 17 = .ok (.getfield 28, 3) := by decide +kernel
theorem dX2_push_20 : decode cX2_push 20 = .ok (.iload_n 1, 1) := by decide +kernel
theorem dX2_push_21 : decode cX2_push 21 = .ok (.iastore, 1) := by decide +kernel
theorem dX2_push_22 : decode cX2_push 22 = .ok (.aload_n 0, 1) := by decide +kernel
theorem dX2_push_23 : decode cX2_push 23 = .ok (.dup, 1) := by decide +kernel
theorem dX2_push_24 : decode cX2_push 24 = .ok (.getfield 28, 3) := by decide +kernel
theorem dX2_push_27 : decode cX2_push 27 = .ok (.iconst 1, 1) := by decide +kernel
theorem dX2_push_28 : decode cX2_push 28 = .ok (.iadd, 1) := by decide +kernel
theorem dX2_push_29 : decode cX2_push 29 = .ok (.putfield 28, 3) := by decide +kernel
theorem dX2_push_32 : decode cX2_push 32 = .ok (.return_, 1) := by decide +kernel
theorem dX2_levelOf_0 : decode cX2_levelOf 0 = .ok (.iload_n 0, 1) := by decide +kernel
theorem dX2_levelOf_1 : decode cX2_levelOf 1 = .ok (.lookupswitch 101 #[(37, 99), (38, 93), (42, 99), (43, 97), (45, 97), (47, 99), (60, 95), (61, 95), (62, 95), (124, 91)], 91) := by decide +kernel
theorem dX2_levelOf_92 : decode cX2_levelOf 92 = .ok (.iconst 1, 1) := by decide +kernel
theorem dX2_levelOf_93 : decode cX2_levelOf 93 = .ok (.ireturn, 1) := by decide +kernel
theorem dX2_levelOf_94 : decode cX2_levelOf 94 = .ok (.iconst 2, 1) := by decide +kernel
theorem dX2_levelOf_95 : decode cX2_levelOf 95 = .ok (.ireturn, 1) := by decide +kernel
theorem dX2_levelOf_96 : decode cX2_levelOf 96 = .ok (.iconst 3, 1) := by decide +kernel
theorem dX2_levelOf_97 : decode cX2_levelOf 97 = .ok (.ireturn, 1) := by decide +kernel
theorem dX2_levelOf_98 : decode cX2_levelOf 98 = .ok (.iconst 4, 1) := by decide +kernel
theorem dX2_levelOf_99 : decode cX2_levelOf 99 = .ok (.ireturn, 1) := by decide +kernel
theorem dX2_levelOf_100 : decode cX2_levelOf 100 = .ok (.iconst 5, 1) := by decide +kernel
theorem dX2_levelOf_101 : decode cX2_levelOf 101 = .ok (.ireturn, 1) := by decide +kernel
theorem dX2_levelOf_102 : decode cX2_levelOf 102 = .ok (.iconst 0, 1) := by decide +kernel
theorem dX2_levelOf_103 : decode cX2_levelOf 103 = .ok (.ireturn, 1) := by decide +kernel
theorem dX3_init_0 : decode cX3_init 0 = .ok (.aload_n 0, 1) := by decide +kernel
theorem dX3_init_1 : decode cX3_init 1 = .ok (.invokespecial 3, 3) := by decide +kernel
theorem dX3_init_4 : decode cX3_init 4 = .ok (.aload_n 0, 1) := by decide +kernel
theorem dX3_init_5 : decode cX3_init 5 = .ok (.bipush 6, 2) := by decide +kernel
theorem dX3_init_7 : decode cX3_init 7 = .ok (.newarray .int, 2) := by decide +kernel
theorem dX3_init_9 : decode cX3_init 9 = .ok (.putfield 9, 3) := by decide +kernel
theorem dX3_init_12 : decode cX3_init 12 = .ok (.aload_n 0, 1) := by decide +kernel
theorem dX3_init_13 : decode cX3_init 13 = .ok (.sipush 360, 3) := by decide +kernel
theorem dX3_init_16 : decode cX3_init 16 = .ok (.newarray .int, 2) := by decide +kernel
theorem dX3_init_18 : decode cX3_init 18 = .ok (.putfield 15, 3) := by decide +kernel
theorem dX3_init_21 : decode cX3_init 21 = .ok (.return_, 1) := by decide +kernel
theorem dX3_tryAll_0 : decode cX3_tryAll 0 = .ok (.aload_n 0, 1) := by decide +kernel
theorem dX3_tryAll_1 : decode cX3_tryAll 1 = .ok (.iload_n 2, 1) := by decide +kernel
theorem dX3_tryAll_2 : decode cX3_tryAll 2 = .ok (.putfield 18, 3) := by decide +kernel
theorem dX3_tryAll_5 : decode cX3_tryAll 5 = .ok (.aload_n 3, 1) := by decide +kernel
theorem dX3_tryAll_6 : decode cX3_tryAll 6 = .ok (.iconst 0, 1) := by decide +kernel
theorem dX3_tryAll_7 : decode cX3_tryAll 7 = .ok (.aload_n 0, 1) := by decide +kernel
theorem dX3_tryAll_8 : decode cX3_tryAll 8 = .ok (.getfield 9, 3) := by decide +kernel
theorem dX3_tryAll_11 : decode cX3_tryAll 11 = .ok (.iconst 0, 1) := by decide +kernel
theorem dX3_tryAll_12 : decode cX3_tryAll 12 = .ok (.bipush 6, 2) := by decide +kernel
theorem dX3_tryAll_14 : decode cX3_tryAll 14 = .ok (.invokestatic 22, 3) := by decide +kernel
theorem dX3_tryAll_17 : decode cX3_tryAll 17 = .ok (.aload_n 0, 1) := by decide +kernel
theorem dX3_tryAll_18 : decode cX3_tryAll 18 = .ok (.iconst 0, 1) := by decide +kernel
theorem dX3_tryAll_19 : decode cX3_tryAll 19 = .ok (.putfield 28, 3) := by decide +kernel
theorem dX3_tryAll_22 : decode cX3_tryAll 22 = .ok (.aload_n 0, 1) := by decide +kernel
theorem dX3_tryAll_23 : decode cX3_tryAll 23 = .ok (.iconst (-1), 1) := by decide +kernel
theorem dX3_tryAll_24 : decode cX3_tryAll 24 = .ok (.putfield 31, 3) := by decide +kernel
theorem dX3_tryAll_27 : decode cX3_tryAll 27 = .ok (.aload_n 0, 1) := by decide +kernel
theorem dX3_tryAll_28 : decode cX3_tryAll 28 = .ok (.iconst (-1), 1) := by decide +kernel
theorem dX3_tryAll_29 : decode cX3_tryAll 29 = .ok (.putfield 34, 3) := by decide +kernel
theorem dX3_tryAll_32 : decode cX3_tryAll 32 = .ok (.aload_n 0, 1) := by decide +kernel
theorem dX3_tryAll_33 : decode cX3_tryAll 33 = .ok (.iconst 0, 1) := by decide +kernel
theorem dX3_tryAll_34 : decode cX3_tryAll 34 = .ok (.putfield 37, 3) := by decide +kernel
theorem dX3_tryAll_37 : decode cX3_tryAll 37 = .ok (.aload_n 0, 1) := by decide +kernel
theorem dX3_tryAll_38 : decode cX3_tryAll 38 = .ok (.aload_n 1, 1) := by decide +kernel
theorem dX3_tryAll_39 : decode cX3_tryAll 39 = .ok (.iconst 0, 1) := by decide +kernel
theorem dX3_tryAll_40 : decode cX3_tryAll 40 = .ok (.iconst 0, 1) := by decide +kernel
theorem dX3_tryAll_41 : decode cX3_tryAll 41 = .ok (.invokevirtual 40, 3) := by decide +kernel
theorem dX3_tryAll_44 : decode cX3_tryAll 44 = .ok (.return_, 1) := by decide +kernel
theorem dX3_tryFrom_0 : decode cX3_tryFrom 0 = .ok (.aload_n 1, 1) := by decide +kernel
theorem dX3_tryFrom_1 : decode cX3_tryFrom 1 = .ok (.iload_n 2, 1) := by decide +kernel
theorem dX3_tryFrom_2 : decode cX3_tryFrom 2 = .ok (.invokevirtual 44, 3) := by decide +kernel
theorem dX3_tryFrom_5 : decode cX3_tryFrom 5 = .ok (.ifCond .ne 10, 3) := by decide +kernel
theorem dX3_tryFrom_8 : decode cX3_tryFrom 8 = .ok (.aload_n 0, 1) := by decide +kernel
theorem dX3_tryFrom_9 : decode cX3_tryFrom 9 = .ok (.aload_n 1, 1) := by decide +kernel
theorem dX3_tryFrom_10 : decode cX3_tryFrom 10 = .ok (.iload_n 3, 1) := by decide +kernel
theorem dX3_tryFrom_11 : decode cX3_tryFrom 11 = .ok (.invokevirtual 50, 3) := by decide +kernel
theorem dX3_tryFrom_14 : decode cX3_tryFrom 14 = .ok (.return_, 1) := by decide +kernel
theorem dX3_tryFrom_15 : decode cX3_tryFrom 15 = .ok (.aload_n 0, 1) := by decide +kernel
theorem dX3_tryFrom_16 : decode cX3_tryFrom 16 = .ok (.aload_n 1, 1) := by decide +kernel
theorem dX3_tryFrom_17 : decode cX3_tryFrom 17 = .ok (.iload_n 2, 1) := by decide +kernel
theorem dX3_tryFrom_18 : decode cX3_tryFrom 18 = .ok (.iconst 1, 1) := by decide +kernel
theorem dX3_tryFrom_19 : decode cX3_tryFrom 19 = .ok (.iadd, 1) := by decide +kernel
theorem dX3_tryFrom_20 : decode cX3_tryFrom 20 = .ok (.iload_n 3, 1) := by decide +kernel
theorem dX3_tryFrom_21 : decode cX3_tryFrom 21 = .ok (.invokevirtual 40, 3) := by decide +kernel
theorem dX3_tryFrom_24 : decode cX3_tryFrom 24 = .ok (.iconst 0, 1) := by decide +kernel
theorem dX3_tryFrom_25 : decode cX3_tryFrom 25 = .ok (.istore 4, 2) := by decide +kernel
theorem dX3_tryFrom_27 : decode cX3_tryFrom 27 = .ok (.iload 4, 2) := by decide +kernel
theorem dX3_tryFrom_29 : decode cX3_tryFrom 29 = .ok (.aload_n 1, 1) := by decide +kernel
theorem dX3_tryFrom_30 : decode cX3_tryFrom 30 = .ok (.getfield 54, 3) := by decide +kernel
theorem dX3_tryFrom_33 : decode cX3_tryFrom 33 = .ok (.if_icmp .ge 35, 3) := by decide +kernel
theorem dX3_tryFrom_36 : decode cX3_tryFrom 36 = .ok (.aload_n 1, 1) := by decide +kernel
theorem dX3_tryFrom_37 : decode cX3_tryFrom 37 = .ok (.getfield 57, 3) := by decide +kernel
theorem dX3_tryFrom_40 : decode cX3_tryFrom 40 = .ok (.iload 4, 2) := by decide +kernel
theorem dX3_tryFrom_42 : decode cX3_tryFrom 42 = .ok (.aaload, 1) := by decide +kernel
theorem dX3_tryFrom_43 : decode cX3_tryFrom 43 = .ok (.getfield 61, 3) := by decide +kernel
theorem dX3_tryFrom_46 : decode cX3_tryFrom 46 = .ok (.iconst 0, 1) := by decide +kernel
theorem dX3_tryFrom_47 : decode cX3_tryFrom 47 = .ok (.aload_n 0, 1) := by decide +kernel
theorem dX3_tryFrom_48 : decode cX3_tryFrom 48 = .ok (.getfield 15, 3) := by decide +kernel
theorem dX3_tryFrom_51 : decode cX3_tryFrom 51 = .ok (.iload_n 2, 1) := by decide +kernel
theorem dX3_tryFrom_52 : decode cX3_tryFrom 52 = .ok (.iload 4, 2) := by decide +kernel
theorem dX3_tryFrom_54 : decode cX3_tryFrom 54 = .ok (.invokestatic 66, 3) := by decide +kernel
theorem dX3_tryFrom_57 : decode cX3_tryFrom 57 = .ok (.bipush 6, 2) := by decide +kernel
theorem dX3_tryFrom_59 : decode cX3_tryFrom 59 = .ok (.invokestatic 22, 3) := by decide +kernel
theorem dX3_tryFrom_62 : decode cX3_tryFrom 62 = .ok (.iinc 4 1, 3) := by decide +kernel
theorem dX3_tryFrom_65 : decode cX3_tryFrom 65 = .ok (.goto (-38), 3) := by decide +kernel
theorem dX3_tryFrom_68 : decode cX3_tryFrom 68 = .ok (.aload_n 1, 1) := by decide +kernel
theorem dX3_tryFrom_69 : decode cX3_tryFrom 69 = .ok (.iload_n 2, 1) := by decide +kernel
theorem dX3_tryFrom_70 : decode cX3_tryFrom 70 = .ok (.invokevirtual 70, 3) := by decide +kernel
theorem dX3_tryFrom_73 : decode cX3_tryFrom 73 = .ok (.pop, 1) := by decide +kernel
theorem dX3_tryFrom_74 : decode cX3_tryFrom 74 = .ok (.aload_n 0, 1) := by decide +kernel
theorem dX3_tryFrom_75 : decode cX3_tryFrom 75 = .ok (.aload_n 1, 1) := by decide +kernel
theorem dX3_tryFrom_76 : decode cX3_tryFrom 76 = .ok (.iload_n 2, 1) := by decide +kernel
theorem dX3_tryFrom_77 : decode cX3_tryFrom 77 = .ok (.iconst 1, 1) := by decide +kernel
theorem dX3_tryFrom_78 : decode cX3_tryFrom 78 = .ok (.iadd, 1) := by decide +kernel
theorem dX3_tryFrom_79 : decode cX3_tryFrom 79 = .ok (.iload_n 3, 1) := by decide +kernel
theorem dX3_tryFrom_80 : decode cX3_tryFrom 80 = .ok (.iconst 1, 1) := by decide +kernel
theorem dX3_tryFrom_81 : decode cX3_tryFrom 81 = .ok (.iload_n 2, 1) := by decide +kernel
theorem dX3_tryFrom_82 : decode cX3_tryFrom 82 = .ok (.ishl, 1) := by decide +kernel
theorem dX3_tryFrom_83 : decode cX3_tryFrom 83 = .ok (.ior, 1) := by decide +kernel
theorem dX3_tryFrom_84 : decode cX3_tryFrom 84 = .ok (.invokevirtual 40, 3) := by decide +kernel
theorem dX3_tryFrom_87 : decode cX3_tryFrom 87 = .ok (.iconst 0, 1) := by decide +kernel
theorem dX3_tryFrom_88 : decode cX3_tryFrom 88 = .ok (.istore 4, 2) := by decide +kernel
theorem dX3_tryFrom_90 : decode cX3_tryFrom 90 = .ok (.iload 4, 2) := by decide +kernel
theorem dX3_tryFrom_92 : decode cX3_tryFrom 92 = .ok (.aload_n 1, 1) := by decide +kernel
theorem dX3_tryFrom_93 : decode cX3_tryFrom 93 = .ok (.getfield 54, 3) := by decide +kernel
theorem dX3_tryFrom_96 : decode cX3_tryFrom 96 = .ok (.if_icmp .ge 35, 3) := by decide +kernel
theorem dX3_tryFrom_99 : decode cX3_tryFrom 99 = .ok (.aload_n 0, 1) := by decide +kernel
theorem dX3_tryFrom_100 : decode cX3_tryFrom 100 = .ok (.getfield 15, 3) := by decide +kernel
theorem dX3_tryFrom_103 : decode cX3_tryFrom 103 = .ok (.iload_n 2, 1) := by decide +kernel
theorem dX3_tryFrom_104 : decode cX3_tryFrom 104 = .ok (.iload 4, 2) := by decide +kernel
theorem dX3_tryFrom_106 : decode cX3_tryFrom 106 = .ok (.invokestatic 66, 3) := by decide +kernel
theorem dX3_tryFrom_109 : decode cX3_tryFrom 109 = .ok (.aload_n 1, 1) := by decide +kernel
theorem dX3_tryFrom_110 : decode cX3_tryFrom 110 = .ok (.getfield 57, 3) := by decide +kernel
theorem dX3_tryFrom_113 : decode cX3_tryFrom 113 = .ok (.iload 4, 2) := by decide +kernel
theorem dX3_tryFrom_115 : decode cX3_tryFrom 115 = .ok (.aaload, 1) := by decide +kernel
theorem dX3_tryFrom_116 : decode cX3_tryFrom 116 = .ok (.getfield 61, 3) := by decide +kernel
theorem dX3_tryFrom_119 : decode cX3_tryFrom 119 = .ok (.iconst 0, 1) := by decide +kernel
theorem dX3_tryFrom_120 : decode cX3_tryFrom 120 = .ok (.bipush 6, 2) := by decide +kernel
theorem dX3_tryFrom_122 : decode cX3_tryFrom 122 = .ok (.invokestatic 22, 3) := by decide +kernel
theorem dX3_tryFrom_125 : decode cX3_tryFrom 125 = .ok (.iinc 4 1, 3) := by decide +kernel
theorem dX3_tryFrom_128 : decode cX3_tryFrom 128 = .ok (.goto (-38), 3) := by decide +kernel
theorem dX3_tryFrom_131 : decode cX3_tryFrom 131 = .ok (.return_, 1) := by decide +kernel
theorem dX3_startOf_0 : decode cX3_startOf 0 = .ok (.iload_n 0, 1) := by decide +kernel
theorem dX3_startOf_1 : decode cX3_startOf 1 = .ok (.bipush 6, 2) := by decide +kernel
theorem dX3_startOf_3 : decode cX3_startOf 3 = .ok (.imul, 1) := by decide +kernel
theorem dX3_startOf_4 : decode cX3_startOf 4 = .ok (.iload_n 1, 1) := by decide +kernel
theorem dX3_startOf_5 : decode cX3_startOf 5 = .ok (.iadd, 1) := by decide +kernel
theorem dX3_startOf_6 : decode cX3_startOf 6 = .ok (.bipush 6, 2) := by decide +kernel
theorem dX3_startOf_8 : decode cX3_startOf 8 = .ok (.imul, 1) := by decide +kernel
theorem dX3_startOf_9 : decode cX3_startOf 9 = .ok (.ireturn, 1) := by decide +kernel
theorem dX3_judgeSet_0 : decode cX3_judgeSet 0 = .ok (.iconst 0, 1) := by decide +kernel
theorem dX3_judgeSet_1 : decode cX3_judgeSet 1 = .ok (.istore_n 3, 1) := by decide +kernel
theorem dX3_judgeSet_2 : decode cX3_judgeSet 2 = .ok (.iload_n 3, 1) := by decide +kernel
theorem dX3_judgeSet_3 : decode cX3_judgeSet 3 = .ok (.bipush 6, 2) := by decide +kernel
theorem dX3_judgeSet_5 : decode cX3_judgeSet 5 = .ok (.if_icmp .ge 33, 3) := by decide +kernel
theorem dX3_judgeSet_8 : decode cX3_judgeSet 8 = .ok (.aload_n 1, 1) := by decide +kernel
theorem dX3_judgeSet_9 : decode cX3_judgeSet 9 = .ok (.getfield 57, 3) := by decide +kernel
theorem dX3_judgeSet_12 : decode cX3_judgeSet 12 = .ok (.aload_n 0, 1) := by decide +kernel
theorem dX3_judgeSet_13 : decode cX3_judgeSet 13 = .ok (.getfield 18, 3) := by decide +kernel
theorem dX3_judgeSet_16 : decode cX3_judgeSet 16 = .ok (.aaload, 1) := by decide +kernel
theorem dX3_judgeSet_17 : decode cX3_judgeSet 17 = .ok (.getfield 61, 3) := by decide +kernel
theorem dX3_judgeSet_20 : decode cX3_judgeSet 20 = .ok (.iload_n 3, 1) := by decide +kernel
theorem dX3_judgeSet_21 : decode cX3_judgeSet 21 = .ok (.iaload, 1) := by decide +kernel
theorem dX3_judgeSet_22 : decode cX3_judgeSet 22 = .ok (.aload_n 0, 1) := by decide +kernel
theorem dX3_judgeSet_23 : decode cX3_judgeSet 23 = .ok (.getfield 9, 3) := by decide +kernel
theorem dX3_judgeSet_26 : decode cX3_judgeSet 26 = .ok (.iload_n 3, 1) := by decide +kernel
theorem dX3_judgeSet_27 : decode cX3_judgeSet 27 = .ok (.iaload, 1) := by decide +kernel
theorem dX3_judgeSet_28 : decode cX3_judgeSet 28 = .ok (.if_icmp .eq 4, 3) := by decide +kernel
theorem dX3_judgeSet_31 : decode cX3_judgeSet 31 = .ok (.return_, 1) := by decide +kernel
theorem dX3_judgeSet_32 : decode cX3_judgeSet 32 = .ok (.iinc 3 1, 3) := by decide +kernel
theorem dX3_judgeSet_35 : decode cX3_judgeSet 35 = .ok (.goto (-33), 3) := by decide +kernel
theorem dX3_judgeSet_38 : decode cX3_judgeSet 38 = .ok (.aload_n 0, 1) := by decide +kernel
theorem dX3_judgeSet_39 : decode cX3_judgeSet 39 = .ok (.aload_n 0, 1) := by decide +kernel
theorem dX3_judgeSet_40 : decode cX3_judgeSet 40 = .ok (.getfield 28, 3) := by decide +kernel
theorem dX3_judgeSet_43 : decode cX3_judgeSet 43 = .ok (.ifCond .ne 7, 3) := by decide +kernel
theorem dX3_judgeSet_46 : decode cX3_judgeSet 46 = .ok (.iload_n 2, 1) := by decide +kernel
theorem dX3_judgeSet_47 : decode cX3_judgeSet 47 = .ok (.goto 11, 3) := by decide +kernel
theorem dX3_judgeSet_50 : decode cX3_judgeSet 50 = .ok (.aload_n 0, 1) := by decide +kernel
theorem dX3_judgeSet_51 : decode cX3_judgeSet 51 = .ok (.getfield 31, 3) := by decide +kernel
theorem dX3_judgeSet_54 : decode cX3_judgeSet 54 = .ok (.iload_n 2, 1) := by decide +kernel
theorem dX3_judgeSet_55 : decode cX3_judgeSet 55 = .ok (.invokestatic 74, 3) := by decide +kernel
theorem dX3_judgeSet_58 : decode cX3_judgeSet 58 = .ok (.putfield 31, 3) := by decide +kernel
theorem dX3_judgeSet_61 : decode cX3_judgeSet 61 = .ok (.aload_n 0, 1) := by decide +kernel
theorem dX3_judgeSet_62 : decode cX3_judgeSet 62 = .ok (.dup, 1) := by decide +kernel
theorem dX3_judgeSet_63 : decode cX3_judgeSet 63 = .ok (.getfield 28, 3) := by decide +kernel
theorem dX3_judgeSet_66 : decode cX3_judgeSet 66 = .ok (.iconst 1, 1) := by decide +kernel
theorem dX3_judgeSet_67 : decode cX3_judgeSet 67 = .ok (.iadd, 1) := by decide +kernel
theorem dX3_judgeSet_68 : decode cX3_judgeSet 68 = .ok (.putfield 28, 3) := by decide +kernel
theorem dX3_judgeSet_71 : decode cX3_judgeSet 71 = .ok (.aload_n 0, 1) := by decide +kernel
theorem dX3_judgeSet_72 : decode cX3_judgeSet 72 = .ok (.dup, 1) := by decide +kernel
theorem dX3_judgeSet_73 : decode cX3_judgeSet 73 = .ok (.getfield 34, 3) := by decide +kernel
theorem dX3_judgeSet_76 : decode cX3_judgeSet 76 = .ok (.iload_n 2, 1) := by decide +kernel
theorem dX3_judgeSet_77 : decode cX3_judgeSet 77 = .ok (.iand, 1) := by decide +kernel
theorem dX3_judgeSet_78 : decode cX3_judgeSet 78 = .ok (.putfield 34, 3) := by decide +kernel
theorem dX3_judgeSet_81 : decode cX3_judgeSet 81 = .ok (.aload_n 0, 1) := by decide +kernel
theorem dX3_judgeSet_82 : decode cX3_judgeSet 82 = .ok (.dup, 1) := by decide +kernel
theorem dX3_judgeSet_83 : decode cX3_judgeSet 83 = .ok (.getfield 37, 3) := by decide +kernel
theorem dX3_judgeSet_86 : decode cX3_judgeSet 86 = .ok (.iload_n 2, 1) := by decide +kernel
theorem dX3_judgeSet_87 : decode cX3_judgeSet 87 = .ok (.ior, 1) := by decide +kernel
theorem dX3_judgeSet_88 : decode cX3_judgeSet 88 = .ok (.putfield 37, 3) := by decide +kernel
theorem dX3_judgeSet_91 : decode cX3_judgeSet 91 = .ok (.return_, 1) := by decide +kernel
theorem dX4_init_0 : decode cX4_init 0 = .ok (.aload_n 0, 1) := by decide +kernel
theorem dX4_init_1 : decode cX4_init 1 = .ok (.invokespecial 1, 3) := by decide +kernel
theorem dX4_init_4 : decode cX4_init 4 = .ok (.aload_n 0, 1) := by decide +kernel
theorem dX4_init_5 : decode cX4_init 5 = .ok (.bipush 24, 2) := by decide +kernel
theorem dX4_init_7 : decode cX4_init 7 = .ok (.newarray .int, 2) := by decide +kernel
theorem dX4_init_9 : decode cX4_init 9 = .ok (.putfield 9, 3) := by decide +kernel
theorem dX4_init_12 : decode cX4_init 12 = .ok (.return_, 1) := by decide +kernel
theorem dX4_isMissing_0 : decode cX4_isMissing 0 = .ok (.aload_n 0, 1) := by decide +kernel
theorem dX4_isMissing_1 : decode cX4_isMissing 1 = .ok (.getfield 13, 3) := by decide +kernel
theorem dX4_isMissing_4 : decode cX4_isMissing 4 = .ok (.ifCond .ne 7, 3) := by decide +kernel
theorem dX4_isMissing_7 : decode cX4_isMissing 7 = .ok (.iconst 1, 1) := by decide +kernel
theorem dX4_isMissing_8 : decode cX4_isMissing 8 = .ok (.goto 4, 3) := by decide +kernel
theorem dX4_isMissing_11 : decode cX4_isMissing 11 = .ok (.iconst 0, 1) := by decide +kernel
theorem dX4_isMissing_12 : decode cX4_isMissing 12 = .ok (.ireturn, 1) := by decide +kernel
theorem dX4_lay_0 : decode cX4_lay 0 = .ok (.aload_n 0, 1) := by decide +kernel
theorem dX4_lay_1 : decode cX4_lay 1 = .ok (.iload_n 1, 1) := by decide +kernel
theorem dX4_lay_2 : decode cX4_lay 2 = .ok (.putfield 13, 3) := by decide +kernel
theorem dX4_lay_5 : decode cX4_lay 5 = .ok (.aload_n 0, 1) := by decide +kernel
theorem dX4_lay_6 : decode cX4_lay 6 = .ok (.iload_n 2, 1) := by decide +kernel
theorem dX4_lay_7 : decode cX4_lay 7 = .ok (.putfield 17, 3) := by decide +kernel
theorem dX4_lay_10 : decode cX4_lay 10 = .ok (.aload_n 0, 1) := by decide +kernel
theorem dX4_lay_11 : decode cX4_lay 11 = .ok (.getfield 9, 3) := by decide +kernel
theorem dX4_lay_14 : decode cX4_lay 14 = .ok (.iconst 0, 1) := by decide +kernel
theorem dX4_lay_15 : decode cX4_lay 15 = .ok (.invokestatic 20, 3) := by decide +kernel
theorem dX4_lay_18 : decode cX4_lay 18 = .ok (.return_, 1) := by decide +kernel
theorem dX4_write_0 : decode cX4_write 0 = .ok (.aload_n 0, 1) := by decide +kernel
theorem dX4_write_1 : decode cX4_write 1 = .ok (.getfield 13, 3) := by decide +kernel
theorem dX4_write_4 : decode cX4_write 4 = .ok (.bipush 8, 2) := by decide +kernel
theorem dX4_write_6 : decode cX4_write 6 = .ok (.if_icmp .ne 14, 3) := by decide +kernel
theorem dX4_write_9 : decode cX4_write 9 = .ok (.aload_n 0, 1) := by decide +kernel
theorem dX4_write_10 : decode cX4_write 10 = .ok (.getfield 9, 3) := by decide +kernel
theorem dX4_write_13 : decode cX4_write 13 = .ok (.iload_n 1, 1) := by decide +kernel
theorem dX4_write_14 : decode cX4_write 14 = .ok (.iload_n 2, 1) := by decide +kernel
theorem dX4_write_15 : decode cX4_write 15 = .ok (.i2b, 1) := by decide +kernel
theorem dX4_write_16 : decode cX4_write 16 = .ok (.iastore, 1) := by decide +kernel
theorem dX4_write_17 : decode cX4_write 17 = .ok (.goto 30, 3) := by decide +kernel
theorem dX4_write_20 : decode cX4_write 20 = .ok (.aload_n 0, 1) := by decide +kernel
theorem dX4_write_21 : decode cX4_write 21 = .ok (.getfield 13, 3) := by decide +kernel
theorem dX4_write_24 : decode cX4_write 24 = .ok (.bipush 16, 2) := by decide +kernel
theorem dX4_write_26 : decode cX4_write 26 = .ok (.if_icmp .ne 14, 3) := by decide +kernel
theorem dX4_write_29 : decode cX4_write 29 = .ok (.aload_n 0, 1) := by decide +kernel
theorem dX4_write_30 : decode cX4_write 30 = .ok (.getfield 9, 3) := by decide +kernel
theorem dX4_write_33 : decode cX4_write 33 = .ok (.iload_n 1, 1) := by decide +kernel
theorem dX4_write_34 : decode cX4_write 34 = .ok (.iload_n 2, 1) := by decide +kernel
theorem dX4_write_35 : decode cX4_write 35 = .ok (.i2s, 1) := by decide +kernel
theorem dX4_write_36 : decode cX4_write 36 = .ok (.iastore, 1) := by decide +kernel
theorem dX4_write_37 : decode cX4_write 37 = .ok (.goto 10, 3) := by decide +kernel
theorem dX4_write_40 : decode cX4_write 40 = .ok (.aload_n 0, 1) := by decide +kernel
theorem dX4_write_41 : decode cX4_write 41 = .ok (.getfield 9, 3) := by decide +kernel
theorem dX4_write_44 : decode cX4_write 44 = .ok (.iload_n 1, 1) := by decide +kernel
theorem dX4_write_45 : decode cX4_write 45 = .ok (.iload_n 2, 1) := by decide +kernel
theorem dX4_write_46 : decode cX4_write 46 = .ok (.iastore, 1) := by decide +kernel
theorem dX4_write_47 : decode cX4_write 47 = .ok (.return_, 1) := by decide +kernel
theorem dX4_holds_0 : decode cX4_holds 0 = .ok (.iload_n 1, 1) := by decide +kernel
theorem dX4_holds_1 : decode cX4_holds 1 = .ok (.ifCond .lt 29, 3) := by decide +kernel
theorem dX4_holds_4 : decode cX4_holds 4 = .ok (.iload_n 2, 1) := by decide +kernel
theorem dX4_holds_5 : decode cX4_holds 5 = .ok (.ifCond .lt 25, 3) := by decide +kernel
theorem dX4_holds_8 : decode cX4_holds 8 = .ok (.iload_n 2, 1) := by decide +kernel
theorem dX4_holds_9 : decode cX4_holds 9 = .ok (.aload_n 0, 1) := by decide +kernel
theorem dX4_holds_10 : decode cX4_holds 10 = .ok (.getfield 17, 3) := by decide +kernel
theorem dX4_holds_13 : decode cX4_holds 13 = .ok (.if_icmp .gt 17, 3) := by decide +kernel
theorem dX4_holds_16 : decode cX4_holds 16 = .ok (.iload_n 1, 1) := by decide +kernel
theorem dX4_holds_17 : decode cX4_holds 17 = .ok (.aload_n 0, 1) := by decide +kernel
theorem dX4_holds_18 : decode cX4_holds 18 = .ok (.getfield 17, 3) := by decide +kernel
theorem dX4_holds_21 : decode cX4_holds 21 = .ok (.iload_n 2, 1) := by decide +kernel
theorem dX4_holds_22 : decode cX4_holds 22 = .ok (.isub, 1) := by decide +kernel
theorem dX4_holds_23 : decode cX4_holds 23 = .ok (.if_icmp .gt 7, 3) := by decide +kernel
theorem dX4_holds_26 : decode cX4_holds 26 = .ok (.iconst 1, 1) := by decide +kernel
theorem dX4_holds_27 : decode cX4_holds 27 = .ok (.goto 4, 3) := by decide +kernel
theorem dX4_holds_30 : decode cX4_holds 30 = .ok (.iconst 0, 1) := by decide +kernel
theorem dX4_holds_31 : decode cX4_holds 31 = .ok (.ireturn, 1) := by decide +kernel
theorem dX5_init_0 : decode cX5_init 0 = .ok (.aload_n 0, 1) := by decide +kernel
theorem dX5_init_1 : decode cX5_init 1 = .ok (.invokespecial 3, 3) := by decide +kernel
theorem dX5_init_4 : decode cX5_init 4 = .ok (.aload_n 0, 1) := by decide +kernel
theorem dX5_init_5 : decode cX5_init 5 = .ok (.bipush 6, 2) := by decide +kernel
theorem dX5_init_7 : decode cX5_init 7 = .ok (.newarray .int, 2) := by decide +kernel
theorem dX5_init_9 : decode cX5_init 9 = .ok (.putfield 9, 3) := by decide +kernel
theorem dX5_init_12 : decode cX5_init 12 = .ok (.aload_n 0, 1) := by decide +kernel
theorem dX5_init_13 : decode cX5_init 13 = .ok (.bipush 6, 2) := by decide +kernel
theorem dX5_init_15 : decode cX5_init 15 = .ok (.newarray .int, 2) := by decide +kernel
theorem dX5_init_17 : decode cX5_init 17 = .ok (.putfield 15, 3) := by decide +kernel
theorem dX5_init_20 : decode cX5_init 20 = .ok (.return_, 1) := by decide +kernel
theorem dX5_open_0 : decode cX5_open 0 = .ok (.aload_n 0, 1) := by decide +kernel
theorem dX5_open_1 : decode cX5_open 1 = .ok (.iload_n 1, 1) := by decide +kernel
theorem dX5_open_2 : decode cX5_open 2 = .ok (.putfield 18, 3) := by decide +kernel
theorem dX5_open_5 : decode cX5_open 5 = .ok (.aload_n 0, 1) := by decide +kernel
theorem dX5_open_6 : decode cX5_open 6 = .ok (.iload_n 2, 1) := by decide +kernel
theorem dX5_open_7 : decode cX5_open 7 = .ok (.putfield 22, 3) := by decide +kernel
theorem dX5_open_10 : decode cX5_open 10 = .ok (.aload_n 0, 1) := by decide +kernel
theorem dX5_open_11 : decode cX5_open 11 = .ok (.iconst 0, 1) := by decide +kernel
theorem dX5_open_12 : decode cX5_open 12 = .ok (.putfield 25, 3) := by decide +kernel
theorem dX5_open_15 : decode cX5_open 15 = .ok (.aload_n 0, 1) := by decide +kernel
theorem dX5_open_16 : decode cX5_open 16 = .ok (.iconst 0, 1) := by decide +kernel
theorem dX5_open_17 : decode cX5_open 17 = .ok (.putfield 28, 3) := by decide +kernel
theorem dX5_open_20 : decode cX5_open 20 = .ok (.aload_n 0, 1) := by decide +kernel
theorem dX5_open_21 : decode cX5_open 21 = .ok (.getfield 9, 3) := by decide +kernel
theorem dX5_open_24 : decode cX5_open 24 = .ok (.iconst 0, 1) := by decide +kernel
theorem dX5_open_25 : decode cX5_open 25 = .ok (.invokestatic 31, 3) := by decide +kernel
theorem dX5_open_28 : decode cX5_open 28 = .ok (.aload_n 0, 1) := by decide +kernel
theorem dX5_open_29 : decode cX5_open 29 = .ok (.getfield 15, 3) := by decide +kernel
theorem dX5_open_32 : decode cX5_open 32 = .ok (.iconst 0, 1) := by decide +kernel
theorem dX5_open_33 : decode cX5_open 33 = .ok (.invokestatic 31, 3) := by decide +kernel
theorem dX5_open_36 : decode cX5_open 36 = .ok (.return_, 1) := by decide +kernel
theorem dX5_copyFrom_0 : decode cX5_copyFrom 0 = .ok (.aload_n 0, 1) := by decide +kernel
theorem dX5_copyFrom_1 : decode cX5_copyFrom 1 = .ok (.aload_n 1, 1) := by decide +kernel
theorem dX5_copyFrom_2 : decode cX5_copyFrom 2 = .ok (.getfield 18, 3) := by decide +kernel
theorem dX5_copyFrom_5 : decode cX5_copyFrom 5 = .ok (.putfield 18, 3) := by decide +kernel
theorem dX5_copyFrom_8 : decode cX5_copyFrom 8 = .ok (.aload_n 0, 1) := by decide +kernel
theorem dX5_copyFrom_9 : decode cX5_copyFrom 9 = .ok (.aload_n 1, 1) := by decide +kernel
theorem dX5_copyFrom_10 : decode cX5_copyFrom 10 = .ok (.getfield 22, 3) := by decide +kernel
theorem dX5_copyFrom_13 : decode cX5_copyFrom 13 = .ok (.putfield 22, 3) := by decide +kernel
theorem dX5_copyFrom_16 : decode cX5_copyFrom 16 = .ok (.aload_n 0, 1) := by decide +kernel
theorem dX5_copyFrom_17 : decode cX5_copyFrom 17 = .ok (.aload_n 1, 1) := by decide +kernel
theorem dX5_copyFrom_18 : decode cX5_copyFrom 18 = .ok (.getfield 25, 3) := by decide +kernel
theorem dX5_copyFrom_21 : decode cX5_copyFrom 21 = .ok (.putfield 25, 3) := by decide +kernel
theorem dX5_copyFrom_24 : decode cX5_copyFrom 24 = .ok (.aload_n 0, 1) := by decide +kernel
theorem dX5_copyFrom_25 : decode cX5_copyFrom 25 = .ok (.aload_n 1, 1) := by decide +kernel
theorem dX5_copyFrom_26 : decode cX5_copyFrom 26 = .ok (.getfield 28, 3) := by decide +kernel
theorem dX5_copyFrom_29 : decode cX5_copyFrom 29 = .ok (.putfield 28, 3) := by decide +kernel
theorem dX5_copyFrom_32 : decode cX5_copyFrom 32 = .ok (.aload_n 1, 1) := by decide +kernel
theorem dX5_copyFrom_33 : decode cX5_copyFrom 33 = .ok (.getfield 9, 3) := by decide +kernel
theorem dX5_copyFrom_36 : decode cX5_copyFrom 36 = .ok (.iconst 0, 1) := by decide +kernel
theorem dX5_copyFrom_37 : decode cX5_copyFrom 37 = .ok (.aload_n 0, 1) := by decide +kernel
theorem dX5_copyFrom_38 : decode cX5_copyFrom 38 = .ok (.getfield 9, 3) := by decide +kernel
theorem dX5_copyFrom_41 : decode cX5_copyFrom 41 = .ok (.iconst 0, 1) := by decide +kernel
theorem dX5_copyFrom_42 : decode cX5_copyFrom 42 = .ok (.bipush 6, 2) := by decide +kernel
theorem dX5_copyFrom_44 : decode cX5_copyFrom 44 = .ok (.invokestatic 37, 3) := by decide +kernel
theorem dX5_copyFrom_47 : decode cX5_copyFrom 47 = .ok (.aload_n 1, 1) := by decide +kernel
theorem dX5_copyFrom_48 : decode cX5_copyFrom 48 = .ok (.getfield 15, 3) := by decide +kernel
theorem dX5_copyFrom_51 : decode cX5_copyFrom 51 = .ok (.iconst 0, 1) := by decide +kernel
theorem dX5_copyFrom_52 : decode cX5_copyFrom 52 = .ok (.aload_n 0, 1) := by decide +kernel
theorem dX5_copyFrom_53 : decode cX5_copyFrom 53 = .ok (.getfield 15, 3) := by decide +kernel
theorem dX5_copyFrom_56 : decode cX5_copyFrom 56 = .ok (.iconst 0, 1) := by decide +kernel
theorem dX5_copyFrom_57 : decode cX5_copyFrom 57 = .ok (.bipush 6, 2) := by decide +kernel
theorem dX5_copyFrom_59 : decode cX5_copyFrom 59 = .ok (.invokestatic 37, 3) := by decide +kernel
theorem dX5_copyFrom_62 : decode cX5_copyFrom 62 = .ok (.return_, 1) := by decide +kernel
theorem dX5_change_0 : decode cX5_change 0 = .ok (.iload_n 1, 1) := by decide +kernel
theorem dX5_change_1 : decode cX5_change 1 = .ok (.ifCond .ne 11, 3) := by decide +kernel
theorem dX5_change_4 : decode cX5_change 4 = .ok (.aload_n 0, 1) := by decide +kernel
theorem dX5_change_5 : decode cX5_change 5 = .ok (.iload_n 2, 1) := by decide +kernel
theorem dX5_change_6 : decode cX5_change 6 = .ok (.putfield 18, 3) := by decide +kernel
theorem dX5_change_9 : decode cX5_change 9 = .ok (.goto 59, 3) := by decide +kernel
theorem dX5_change_12 : decode cX5_change 12 = .ok (.iload_n 1, 1) := by decide +kernel
theorem dX5_change_13 : decode cX5_change 13 = .ok (.iconst 1, 1) := by decide +kernel
theorem dX5_change_14 : decode cX5_change 14 = .ok (.if_icmp .ne 11, 3) := by decide +kernel
theorem dX5_change_17 : decode cX5_change 17 = .ok (.aload_n 0, 1) := by decide +kernel
theorem dX5_change_18 : decode cX5_change 18 = .ok (.iload_n 2, 1) := by decide +kernel
theorem dX5_change_19 : decode cX5_change 19 = .ok (.putfield 22, 3) := by decide +kernel
theorem dX5_change_22 : decode cX5_change 22 = .ok (.goto 46, 3) := by decide +kernel
theorem dX5_change_25 : decode cX5_change 25 = .ok (.iload_n 1, 1) := by decide +kernel
theorem dX5_change_26 : decode cX5_change 26 = .ok (.iconst 3, 1) := by decide +kernel
theorem dX5_change_27 : decode cX5_change 27 = .ok (.bipush 8, 2) := by decide +kernel
theorem dX5_change_29 : decode cX5_change 29 = .ok (.invokestatic 43, 3) := by decide +kernel
theorem dX5_change_32 : decode cX5_change 32 = .ok (.ifCond .eq 15, 3) := by decide +kernel
theorem dX5_change_35 : decode cX5_change 35 = .ok (.aload_n 0, 1) := by decide +kernel
theorem dX5_change_36 : decode cX5_change 36 = .ok (.getfield 9, 3) := by decide +kernel
theorem dX5_change_39 : decode cX5_change 39 = .ok (.iload_n 1, 1) := by decide +kernel
theorem dX5_change_40 : decode cX5_change 40 = .ok (.iconst 3, 1) := by decide +kernel
theorem dX5_change_41 : decode cX5_change 41 = .ok (.isub, 1) := by decide +kernel
theorem dX5_change_42 : decode cX5_change 42 = .ok (.iload_n 2, 1) := by decide +kernel
theorem dX5_change_43 : decode cX5_change 43 = .ok (.iastore, 1) := by decide +kernel
theorem dX5_change_44 : decode cX5_change 44 = .ok (.goto 24, 3) := by decide +kernel
theorem dX5_change_47 : decode cX5_change 47 = .ok (.iload_n 1, 1) := by decide +kernel
theorem dX5_change_48 : decode cX5_change 48 = .ok (.bipush 9, 2) := by decide +kernel
theorem dX5_change_50 : decode cX5_change 50 = .ok (.bipush 14, 2) := by decide +kernel
theorem dX5_change_52 : decode cX5_change 52 = .ok (.invokestatic 43, 3) := by decide +kernel
theorem dX5_change_55 : decode cX5_change 55 = .ok (.ifCond .eq 13, 3) := by decide +kernel
theorem dX5_change_58 : decode cX5_change 58 = .ok (.aload_n 0, 1) := by decide +kernel
theorem dX5_change_59 : decode cX5_change 59 = .ok (.getfield 15, 3) := by decide +kernel
theorem dX5_change_62 : decode cX5_change 62 = .ok (.iload_n 1, 1) := by decide +kernel
theorem dX5_change_63 : decode cX5_change 63 = .ok (.bipush 9, 2) := by decide +kernel
theorem dX5_change_65 : decode cX5_change 65 = .ok (.isub, 1) := by decide +kernel
theorem dX5_change_66 : decode cX5_change 66 = .ok (.iload_n 2, 1) := by decide +kernel
theorem dX5_change_67 : decode cX5_change 67 = .ok (.iastore, 1) := by decide +kernel
theorem dX5_change_68 : decode cX5_change 68 = .ok (.return_, 1) := by decide +kernel
theorem dX5_earn_0 : decode cX5_earn 0 = .ok (.aload_n 0, 1) := by decide +kernel
theorem dX5_earn_1 : decode cX5_earn 1 = .ok (.aload_n 0, 1) := by decide +kernel
theorem dX5_earn_2 : decode cX5_earn 2 = .ok (.getfield 25, 3) := by decide +kernel
theorem dX5_earn_5 : decode cX5_earn 5 = .ok (.iload_n 1, 1) := by decide +kernel
theorem dX5_earn_6 : decode cX5_earn 6 = .ok (.iadd, 1) := by decide +kernel
theorem dX5_earn_7 : decode cX5_earn 7 = .ok (.ldc 47, 2) := by decide +kernel
theorem dX5_earn_9 : decode cX5_earn 9 = .ok (.ldc 48, 2) := by decide +kernel
theorem dX5_earn_11 : decode cX5_earn 11 = .ok (.invokestatic 49, 3) := by decide +kernel
theorem dX5_earn_14 : decode cX5_earn 14 = .ok (.putfield 25, 3) := by decide +kernel
theorem dX5_earn_17 : decode cX5_earn 17 = .ok (.return_, 1) := by decide +kernel
theorem dX5_keepOnly_0 : decode cX5_keepOnly 0 = .ok (.iconst 0, 1) := by decide +kernel
theorem dX5_keepOnly_1 : decode cX5_keepOnly 1 = .ok (.istore_n 2, 1) := by decide +kernel
theorem dX5_keepOnly_2 : decode cX5_keepOnly 2 = .ok (.iload_n 2, 1) := by decide +kernel
theorem dX5_keepOnly_3 : decode cX5_keepOnly 3 = .ok (.bipush 6, 2) := by decide +kernel
theorem dX5_keepOnly_5 : decode cX5_keepOnly 5 = .ok (.if_icmp .ge 24, 3) := by decide +kernel
theorem dX5_keepOnly_8 : decode cX5_keepOnly 8 = .ok (.iload_n 1, 1) := by decide +kernel
theorem dX5_keepOnly_9 : decode cX5_keepOnly 9 = .ok (.iload_n 2, 1) := by decide +kernel
theorem dX5_keepOnly_10 : decode cX5_keepOnly 10 = .ok (.ishr, 1) := by decide +kernel
theorem dX5_keepOnly_11 : decode cX5_keepOnly 11 = .ok (.iconst 1, 1) := by decide +kernel
theorem dX5_keepOnly_12 : decode cX5_keepOnly 12 = .ok (.iand, 1) := by decide +kernel
theorem dX5_keepOnly_13 : decode cX5_keepOnly 13 = .ok (.ifCond .ne 10, 3) := by decide +kernel
theorem dX5_keepOnly_16 : decode cX5_keepOnly 16 = .ok (.aload_n 0, 1) := by decide +kernel
theorem dX5_keepOnly_17 : decode cX5_keepOnly 17 = .ok (.getfield 9, 3) := by decide +kernel
theorem dX5_keepOnly_20 : decode cX5_keepOnly 20 = .ok (.iload_n 2, 1) := by decide +kernel
theorem dX5_keepOnly_21 : decode cX5_keepOnly 21 = .ok (.iconst 0, 1) := by decide +kernel
theorem dX5_keepOnly_22 : decode cX5_keepOnly 22 = .ok (.iastore, 1) := by decide +kernel
theorem dX5_keepOnly_23 : decode cX5_keepOnly 23 = .ok (.iinc 2 1, 3) := by decide +kernel
theorem dX5_keepOnly_26 : decode cX5_keepOnly 26 = .ok (.goto (-24), 3) := by decide +kernel
theorem dX5_keepOnly_29 : decode cX5_keepOnly 29 = .ok (.return_, 1) := by decide +kernel
theorem dX5_join_0 : decode cX5_join 0 = .ok (.aload_n 0, 1) := by decide +kernel
theorem dX5_join_1 : decode cX5_join 1 = .ok (.aload_n 1, 1) := by decide +kernel
theorem dX5_join_2 : decode cX5_join 2 = .ok (.getfield 25, 3) := by decide +kernel
theorem dX5_join_5 : decode cX5_join 5 = .ok (.invokevirtual 53, 3) := by decide +kernel
theorem dX5_join_8 : decode cX5_join 8 = .ok (.iconst 0, 1) := by decide +kernel
theorem dX5_join_9 : decode cX5_join 9 = .ok (.istore_n 2, 1) := by decide +kernel
theorem dX5_join_10 : decode cX5_join 10 = .ok (.iload_n 2, 1) := by decide +kernel
theorem dX5_join_11 : decode cX5_join 11 = .ok (.bipush 6, 2) := by decide +kernel
theorem dX5_join_13 : decode cX5_join 13 = .ok (.if_icmp .ge 57, 3) := by decide +kernel
theorem dX5_join_16 : decode cX5_join 16 = .ok (.aload_n 0, 1) := by decide +kernel
theorem dX5_join_17 : decode cX5_join 17 = .ok (.getfield 9, 3) := by decide +kernel
theorem dX5_join_20 : decode cX5_join 20 = .ok (.iload_n 2, 1) := by decide +kernel
theorem dX5_join_21 : decode cX5_join 21 = .ok (.bipush 9, 2) := by decide +kernel
theorem dX5_join_23 : decode cX5_join 23 = .ok (.aload_n 0, 1) := by decide +kernel
theorem dX5_join_24 : decode cX5_join 24 = .ok (.getfield 9, 3) := by decide +kernel
theorem dX5_join_27 : decode cX5_join 27 = .ok (.iload_n 2, 1) := by decide +kernel
theorem dX5_join_28 : decode cX5_join 28 = .ok (.iaload, 1) := by decide +kernel
theorem dX5_join_29 : decode cX5_join 29 = .ok (.aload_n 1, 1) := by decide +kernel
theorem dX5_join_30 : decode cX5_join 30 = .ok (.getfield 9, 3) := by decide +kernel
theorem dX5_join_33 : decode cX5_join 33 = .ok (.iload_n 2, 1) := by decide +kernel
theorem dX5_join_34 : decode cX5_join 34 = .ok (.iaload, 1) := by decide +kernel
theorem dX5_join_35 : decode cX5_join 35 = .ok (.iadd, 1) := by decide +kernel
theorem dX5_join_36 : decode cX5_join 36 = .ok (.invokestatic 57, 3) := by decide +kernel
theorem dX5_join_39 : decode cX5_join 39 = .ok (.iastore, 1) := by decide +kernel
theorem dX5_join_40 : decode cX5_join 40 = .ok (.aload_n 0, 1) := by decide +kernel
theorem dX5_join_41 : decode cX5_join 41 = .ok (.getfield 15, 3) := by decide +kernel
theorem dX5_join_44 : decode cX5_join 44 = .ok (.iload_n 2, 1) := by decide +kernel
theorem dX5_join_45 : decode cX5_join 45 = .ok (.bipush 99, 2) := by decide +kernel
theorem dX5_join_47 : decode cX5_join 47 = .ok (.aload_n 0, 1) := by decide +kernel
theorem dX5_join_48 : decode cX5_join 48 = .ok (.getfield 15, 3) := by decide +kernel
theorem dX5_join_51 : decode cX5_join 51 = .ok (.iload_n 2, 1) := by decide +kernel
theorem dX5_join_52 : decode cX5_join 52 = .ok (.iaload, 1) := by decide +kernel
theorem dX5_join_53 : decode cX5_join 53 = .ok (.aload_n 1, 1) := by decide +kernel
theorem dX5_join_54 : decode cX5_join 54 = .ok (.getfield 15, 3) := by decide +kernel
theorem dX5_join_57 : decode cX5_join 57 = .ok (.iload_n 2, 1) := by decide +kernel
theorem dX5_join_58 : decode cX5_join 58 = .ok (.iaload, 1) := by decide +kernel
theorem dX5_join_59 : decode cX5_join 59 = .ok (.iadd, 1) := by decide +kernel
theorem dX5_join_60 : decode cX5_join 60 = .ok (.invokestatic 57, 3) := by decide +kernel
theorem dX5_join_63 : decode cX5_join 63 = .ok (.iastore, 1) := by decide +kernel
theorem dX5_join_64 : decode cX5_join 64 = .ok (.iinc 2 1, 3) := by decide +kernel
theorem dX5_join_67 : decode cX5_join 67 = .ok (.goto (-57), 3) := by decide +kernel
theorem dX5_join_70 : decode cX5_join 70 = .ok (.return_, 1) := by decide +kernel
theorem dX5_things_0 : decode cX5_things 0 = .ok (.iconst 0, 1) := by decide +kernel
theorem dX5_things_1 : decode cX5_things 1 = .ok (.istore_n 1, 1) := by decide +kernel
theorem dX5_things_2 : decode cX5_things 2 = .ok (.iconst 0, 1) := by decide +kernel
theorem dX5_things_3 : decode cX5_things 3 = .ok (.istore_n 2, 1) := by decide +kernel
theorem dX5_things_4 : decode cX5_things 4 = .ok (.iload_n 2, 1) := by decide +kernel
theorem dX5_things_5 : decode cX5_things 5 = .ok (.bipush 6, 2) := by decide +kernel
theorem dX5_things_7 : decode cX5_things 7 = .ok (.if_icmp .ge 18, 3) := by decide +kernel
theorem dX5_things_10 : decode cX5_things 10 = .ok (.iload_n 1, 1) := by decide +kernel
theorem dX5_things_11 : decode cX5_things 11 = .ok (.aload_n 0, 1) := by decide +kernel
theorem dX5_things_12 : decode cX5_things 12 = .ok (.getfield 15, 3) := by decide +kernel
theorem dX5_things_15 : decode cX5_things 15 = .ok (.iload_n 2, 1) := by decide +kernel
theorem dX5_things_16 : decode cX5_things 16 = .ok (.iaload, 1) := by decide +kernel
theorem dX5_things_17 : decode cX5_things 17 = .ok (.iadd, 1) := by decide +kernel
theorem dX5_things_18 : decode cX5_things 18 = .ok (.istore_n 1, 1) := by decide +kernel
theorem dX5_things_19 : decode cX5_things 19 = .ok (.iinc 2 1, 3) := by decide +kernel
theorem dX5_things_22 : decode cX5_things 22 = .ok (.goto (-18), 3) := by decide +kernel
theorem dX5_things_25 : decode cX5_things 25 = .ok (.iload_n 1, 1) := by decide +kernel
theorem dX5_things_26 : decode cX5_things 26 = .ok (.ireturn, 1) := by decide +kernel
theorem dX5_goodsHere_0 : decode cX5_goodsHere 0 = .ok (.iconst 0, 1) := by decide +kernel
theorem dX5_goodsHere_1 : decode cX5_goodsHere 1 = .ok (.istore_n 1, 1) := by decide +kernel
theorem dX5_goodsHere_2 : decode cX5_goodsHere 2 = .ok (.iconst 0, 1) := by decide +kernel
theorem dX5_goodsHere_3 : decode cX5_goodsHere 3 = .ok (.istore_n 2, 1) := by decide +kernel
theorem dX5_goodsHere_4 : decode cX5_goodsHere 4 = .ok (.iload_n 2, 1) := by decide +kernel
theorem dX5_goodsHere_5 : decode cX5_goodsHere 5 = .ok (.bipush 6, 2) := by decide +kernel
theorem dX5_goodsHere_7 : decode cX5_goodsHere 7 = .ok (.if_icmp .ge 24, 3) := by decide +kernel
theorem dX5_goodsHere_10 : decode cX5_goodsHere 10 = .ok (.aload_n 0, 1) := by decide +kernel
theorem dX5_goodsHere_11 : decode cX5_goodsHere 11 = .ok (.getfield 15, 3) := by decide +kernel
theorem dX5_goodsHere_14 : decode cX5_goodsHere 14 = .ok (.iload_n 2, 1) := by decide +kernel
theorem dX5_goodsHere_15 : decode cX5_goodsHere 15 = .ok (.iaload, 1) := by decide +kernel
theorem dX5_goodsHere_16 : decode cX5_goodsHere 16 = .ok (.ifCond .le 9, 3) := by decide +kernel
theorem dX5_goodsHere_19 : decode cX5_goodsHere 19 = .ok (.iload_n 1, 1) := by decide +kernel
theorem dX5_goodsHere_20 : decode cX5_goodsHere 20 = .ok (.iconst 1, 1) := by decide +kernel
theorem dX5_goodsHere_21 : decode cX5_goodsHere 21 = .ok (.iload_n 2, 1) := by decide +kernel
theorem dX5_goodsHere_22 : decode cX5_goodsHere 22 = .ok (.ishl, 1) := by decide +kernel
theorem dX5_goodsHere_23 : decode cX5_goodsHere 23 = .ok (.ior, 1) := by decide +kernel
theorem dX5_goodsHere_24 : decode cX5_goodsHere 24 = .ok (.istore_n 1, 1) := by decide +kernel
theorem dX5_goodsHere_25 : decode cX5_goodsHere 25 = .ok (.iinc 2 1, 3) := by decide +kernel
theorem dX5_goodsHere_28 : decode cX5_goodsHere 28 = .ok (.goto (-24), 3) := by decide +kernel
theorem dX5_goodsHere_31 : decode cX5_goodsHere 31 = .ok (.iload_n 1, 1) := by decide +kernel
theorem dX5_goodsHere_32 : decode cX5_goodsHere 32 = .ok (.ireturn, 1) := by decide +kernel
theorem dX6_init_0 : decode cX6_init 0 = .ok (.aload_n 0, 1) := by decide +kernel
theorem dX6_init_1 : decode cX6_init 1 = .ok (.invokespecial 3, 3) := by decide +kernel
theorem dX6_init_4 : decode cX6_init 4 = .ok (.aload_n 0, 1) := by decide +kernel
theorem dX6_init_5 : decode cX6_init 5 = .ok (.bipush 30, 2) := by decide +kernel
theorem dX6_init_7 : decode cX6_init 7 = .ok (.newarray .int, 2) := by decide +kernel
theorem dX6_init_9 : decode cX6_init 9 = .ok (.putfield 9, 3) := by decide +kernel
theorem dX6_init_12 : decode cX6_init 12 = .ok (.return_, 1) := by decide +kernel
theorem dX6_speak_0 : decode cX6_speak 0 = .ok (.aload_n 0, 1) := by decide +kernel
theorem dX6_speak_1 : decode cX6_speak 1 = .ok (.aload_n 1, 1) := by decide +kernel
theorem dX6_speak_2 : decode cX6_speak 2 = .ok (.getfield 15, 3) := by decide +kernel
theorem dX6_speak_5 : decode cX6_speak 5 = .ok (.putfield 21, 3) := by decide +kernel
theorem dX6_speak_8 : decode cX6_speak 8 = .ok (.aload_n 0, 1) := by decide +kernel
theorem dX6_speak_9 : decode cX6_speak 9 = .ok (.aload_n 1, 1) := by decide +kernel
theorem dX6_speak_10 : decode cX6_speak 10 = .ok (.getfield 22, 3) := by decide +kernel
theorem dX6_speak_13 : decode cX6_speak 13 = .ok (.putfield 25, 3) := by decide +kernel
theorem dX6_speak_16 : decode cX6_speak 16 = .ok (.aload_n 0, 1) := by decide +kernel
theorem dX6_speak_17 : decode cX6_speak 17 = .ok (.iload_n 2, 1) := by decide +kernel
theorem dX6_speak_18 : decode cX6_speak 18 = .ok (.putfield 26, 3) := by decide +kernel
theorem dX6_speak_21 : decode cX6_speak 21 = .ok (.aload_n 0, 1) := by decide +kernel
theorem dX6_speak_22 : decode cX6_speak 22 = .ok (.iconst 0, 1) := by decide +kernel
theorem dX6_speak_23 : decode cX6_speak 23 = .ok (.putfield 29, 3) := by decide +kernel
theorem dX6_speak_26 : decode cX6_speak 26 = .ok (.aload_n 0, 1) := by decide +kernel
theorem dX6_speak_27 : decode cX6_speak 27 = .ok (.iconst 0, 1) := by decide +kernel
theorem dX6_speak_28 : decode cX6_speak 28 = .ok (.putfield 32, 3) := by decide +kernel
theorem dX6_speak_31 : decode cX6_speak 31 = .ok (.aload_n 0, 1) := by decide +kernel
theorem dX6_speak_32 : decode cX6_speak 32 = .ok (.aload_n 0, 1) := by decide +kernel
theorem dX6_speak_33 : decode cX6_speak 33 = .ok (.getfield 21, 3) := by decide +kernel
theorem dX6_speak_36 : decode cX6_speak 36 = .ok (.iload_n 3, 1) := by decide +kernel
theorem dX6_speak_37 : decode cX6_speak 37 = .ok (.iload 4, 2) := by decide +kernel
theorem dX6_speak_39 : decode cX6_speak 39 = .ok (.iconst 0, 1) := by decide +kernel
theorem dX6_speak_40 : decode cX6_speak 40 = .ok (.invokevirtual 36, 3) := by decide +kernel
theorem dX6_speak_43 : decode cX6_speak 43 = .ok (.ireturn, 1) := by decide +kernel
theorem dX6_say_0 : decode cX6_say 0 = .ok (.iload_n 1, 1) := by decide +kernel
theorem dX6_say_1 : decode cX6_say 1 = .ok (.iload_n 2, 1) := by decide +kernel
theorem dX6_say_2 : decode cX6_say 2 = .ok (.invokestatic 40, 3) := by decide +kernel
theorem dX6_say_5 : decode cX6_say 5 = .ok (.istore 5, 2) := by decide +kernel
theorem dX6_say_7 : decode cX6_say 7 = .ok (.iload 5, 2) := by decide +kernel
theorem dX6_say_9 : decode cX6_say 9 = .ok (.ifCond .lt 10, 3) := by decide +kernel
theorem dX6_say_12 : decode cX6_say 12 = .ok (.iload 4, 2) := by decide +kernel
theorem dX6_say_14 : decode cX6_say 14 = .ok (.bipush 20, 2) := by decide +kernel
theorem dX6_say_16 : decode cX6_say 16 = .ok (.if_icmp .le 5, 3) := by decide +kernel
theorem dX6_say_19 : decode cX6_say 19 = .ok (.iconst 0, 1) := by decide +kernel
theorem dX6_say_20 : decode cX6_say 20 = .ok (.ireturn, 1) := by decide +kernel
theorem dX6_say_21 : decode cX6_say 21 = .ok (.getstatic 44, 3) := by decide +kernel
theorem dX6_say_24 : decode cX6_say 24 = .ok (.iload 5, 2) := by decide +kernel
theorem dX6_say_26 : decode cX6_say 26 = .ok (.iconst 4, 1) := by decide +kernel
theorem dX6_say_27 : decode cX6_say 27 = .ok (.imul, 1) := by decide +kernel
theorem dX6_say_28 : decode cX6_say 28 = .ok (.iload_n 2, 1) := by decide +kernel
theorem dX6_say_29 : decode cX6_say 29 = .ok (.iadd, 1) := by decide +kernel
theorem dX6_say_30 : decode cX6_say 30 = .ok (.iaload, 1) := by decide +kernel
theorem dX6_say_31 : decode cX6_say 31 = .ok (.istore 6, 2) := by decide +kernel
theorem dX6_say_33 : decode cX6_say 33 = .ok (.aload_n 0, 1) := by decide +kernel
theorem dX6_say_34 : decode cX6_say 34 = .ok (.iload 6, 2) := by decide +kernel
theorem dX6_say_36 : decode cX6_say 36 = .ok (.invokevirtual 47, 3) := by decide +kernel
theorem dX6_say_39 : decode cX6_say 39 = .ok (.getstatic 51, 3) := by decide +kernel
theorem dX6_say_42 : decode cX6_say 42 = .ok (.iload 5, 2) := by decide +kernel
theorem dX6_say_44 : decode cX6_say 44 = .ok (.iaload, 1) := by decide +kernel
theorem dX6_say_45 : decode cX6_say 45 = .ok (.istore 7, 2) := by decide +kernel
theorem dX6_say_47 : decode cX6_say 47 = .ok (.iload 4, 2) := by decide +kernel
theorem dX6_say_49 : decode cX6_say 49 = .ok (.iconst 1, 1) := by decide +kernel
theorem dX6_say_50 : decode cX6_say 50 = .ok (.iadd, 1) := by decide +kernel
theorem dX6_say_51 : decode cX6_say 51 = .ok (.istore 8, 2) := by decide +kernel
theorem dX6_say_53 : decode cX6_say 53 = .ok (.iload 6, 2) := by decide +kernel
theorem dX6_say_55 : decode cX6_say 55 = .ok (.lookupswitch 268 #[(10, 113), (11, 120), (12, 135), (13, 153), (20, 159), (21, 172), (30, 182), (40, 195), (50, 208), (51, 221), (60, 237), (70, 250), (71, 252)], 113) := by decide +kernel
theorem dX6_say_168 : decode cX6_say 168 = .ok (.iload_n 3, 1) := by decide +kernel
theorem dX6_say_169 : decode cX6_say 169 = .ok (.aload_n 0, 1) := by decide +kernel
theorem dX6_say_170 : decode cX6_say 170 = .ok (.getfield 26, 3) := by decide +kernel
theorem dX6_say_173 : decode cX6_say 173 = .ok (.iadd, 1) := by decide +kernel
theorem dX6_say_174 : decode cX6_say 174 = .ok (.ireturn, 1) := by decide +kernel
theorem dX6_say_175 : decode cX6_say 175 = .ok (.aload_n 0, 1) := by decide +kernel
theorem dX6_say_176 : decode cX6_say 176 = .ok (.aload_n 0, 1) := by decide +kernel
theorem dX6_say_177 : decode cX6_say 177 = .ok (.getfield 21, 3) := by decide +kernel
theorem dX6_say_180 : decode cX6_say 180 = .ok (.iconst 0, 1) := by decide +kernel
theorem dX6_say_181 : decode cX6_say 181 = .ok (.iload_n 3, 1) := by decide +kernel
theorem dX6_say_182 : decode cX6_say 182 = .ok (.iload 8, 2) := by decide +kernel
theorem dX6_say_184 : decode cX6_say 184 = .ok (.invokevirtual 36, 3) := by decide +kernel
theorem dX6_say_187 : decode cX6_say 187 = .ok (.iconst 2, 1) := by decide +kernel
theorem dX6_say_188 : decode cX6_say 188 = .ok (.imul, 1) := by decide +kernel
theorem dX6_say_189 : decode cX6_say 189 = .ok (.ireturn, 1) := by decide +kernel
theorem dX6_say_190 : decode cX6_say 190 = .ok (.aload_n 0, 1) := by decide +kernel
theorem dX6_say_191 : decode cX6_say 191 = .ok (.aload_n 0, 1) := by decide +kernel
theorem dX6_say_192 : decode cX6_say 192 = .ok (.getfield 21, 3) := by decide +kernel
theorem dX6_say_195 : decode cX6_say 195 = .ok (.iconst 1, 1) := by decide +kernel
theorem dX6_say_196 : decode cX6_say 196 = .ok (.iload_n 3, 1) := by decide +kernel
theorem dX6_say_197 : decode cX6_say 197 = .ok (.iload 8, 2) := by decide +kernel
theorem dX6_say_199 : decode cX6_say 199 = .ok (.invokevirtual 36, 3) := by decide +kernel
theorem dX6_say_202 : decode cX6_say 202 = .ok (.aload_n 0, 1) := by decide +kernel
theorem dX6_say_203 : decode cX6_say 203 = .ok (.getfield 25, 3) := by decide +kernel
theorem dX6_say_206 : decode cX6_say 206 = .ok (.isub, 1) := by decide +kernel
theorem dX6_say_207 : decode cX6_say 207 = .ok (.ireturn, 1) := by decide +kernel
theorem dX6_say_208 : decode cX6_say 208 = .ok (.aload_n 0, 1) := by decide +kernel
theorem dX6_say_209 : decode cX6_say 209 = .ok (.iload_n 3, 1) := by decide +kernel
theorem dX6_say_210 : decode cX6_say 210 = .ok (.invokevirtual 54, 3) := by decide +kernel
theorem dX6_say_213 : decode cX6_say 213 = .ok (.ireturn, 1) := by decide +kernel
theorem dX6_say_214 : decode cX6_say 214 = .ok (.aload_n 0, 1) := by decide +kernel
theorem dX6_say_215 : decode cX6_say 215 = .ok (.iload 7, 2) := by decide +kernel
theorem dX6_say_217 : decode cX6_say 217 = .ok (.iconst 0, 1) := by decide +kernel
theorem dX6_say_218 : decode cX6_say 218 = .ok (.iload_n 3, 1) := by decide +kernel
theorem dX6_say_219 : decode cX6_say 219 = .ok (.iload 8, 2) := by decide +kernel
theorem dX6_say_221 : decode cX6_say 221 = .ok (.invokevirtual 36, 3) := by decide +kernel
theorem dX6_say_224 : decode cX6_say 224 = .ok (.iconst 4, 1) := by decide +kernel
theorem dX6_say_225 : decode cX6_say 225 = .ok (.isub, 1) := by decide +kernel
theorem dX6_say_226 : decode cX6_say 226 = .ok (.ireturn, 1) := by decide +kernel
theorem dX6_say_227 : decode cX6_say 227 = .ok (.aload_n 0, 1) := by decide +kernel
theorem dX6_say_228 : decode cX6_say 228 = .ok (.iload 7, 2) := by decide +kernel
theorem dX6_say_230 : decode cX6_say 230 = .ok (.iload_n 3, 1) := by decide +kernel
theorem dX6_say_231 : decode cX6_say 231 = .ok (.iload 8, 2) := by decide +kernel
theorem dX6_say_233 : decode cX6_say 233 = .ok (.invokevirtual 58, 3) := by decide +kernel
theorem dX6_say_236 : decode cX6_say 236 = .ok (.ireturn, 1) := by decide +kernel
theorem dX6_say_237 : decode cX6_say 237 = .ok (.iconst 0, 1) := by decide +kernel
theorem dX6_say_238 : decode cX6_say 238 = .ok (.aload_n 0, 1) := by decide +kernel
theorem dX6_say_239 : decode cX6_say 239 = .ok (.iload 7, 2) := by decide +kernel
theorem dX6_say_241 : decode cX6_say 241 = .ok (.iconst 1, 1) := by decide +kernel
theorem dX6_say_242 : decode cX6_say 242 = .ok (.iload_n 3, 1) := by decide +kernel
theorem dX6_say_243 : decode cX6_say 243 = .ok (.iload 8, 2) := by decide +kernel
theorem dX6_say_245 : decode cX6_say 245 = .ok (.invokevirtual 36, 3) := by decide +kernel
theorem dX6_say_248 : decode cX6_say 248 = .ok (.isub, 1) := by decide +kernel
theorem dX6_say_249 : decode cX6_say 249 = .ok (.ireturn, 1) := by decide +kernel
theorem dX6_say_250 : decode cX6_say 250 = .ok (.aload_n 0, 1) := by decide +kernel
theorem dX6_say_251 : decode cX6_say 251 = .ok (.iload 7, 2) := by decide +kernel
theorem dX6_say_253 : decode cX6_say 253 = .ok (.iconst 2, 1) := by decide +kernel
theorem dX6_say_254 : decode cX6_say 254 = .ok (.iload_n 3, 1) := by decide +kernel
theorem dX6_say_255 : decode cX6_say 255 = .ok (.iconst 2, 1) := by decide +kernel
theorem dX6_say_256 : decode cX6_say 256 = .ok (.idiv, 1) := by decide +kernel
theorem dX6_say_257 : decode cX6_say 257 = .ok (.iload 8, 2) := by decide +kernel
theorem dX6_say_259 : decode cX6_say 259 = .ok (.invokevirtual 36, 3) := by decide +kernel
theorem dX6_say_262 : decode cX6_say 262 = .ok (.ireturn, 1) := by decide +kernel
theorem dX6_say_263 : decode cX6_say 263 = .ok (.aload_n 0, 1) := by decide +kernel
theorem dX6_say_264 : decode cX6_say 264 = .ok (.iload 7, 2) := by decide +kernel
theorem dX6_say_266 : decode cX6_say 266 = .ok (.iconst 0, 1) := by decide +kernel
theorem dX6_say_267 : decode cX6_say 267 = .ok (.iload_n 3, 1) := by decide +kernel
theorem dX6_say_268 : decode cX6_say 268 = .ok (.iload 8, 2) := by decide +kernel
theorem dX6_say_270 : decode cX6_say 270 = .ok (.invokevirtual 36, 3) := by decide +kernel
theorem dX6_say_273 : decode cX6_say 273 = .ok (.iconst 3, 1) := by decide +kernel
theorem dX6_say_274 : decode cX6_say 274 = .ok (.imul, 1) := by decide +kernel
theorem dX6_say_275 : decode cX6_say 275 = .ok (.ireturn, 1) := by decide +kernel
theorem dX6_say_276 : decode cX6_say 276 = .ok (.aload_n 0, 1) := by decide +kernel
theorem dX6_say_277 : decode cX6_say 277 = .ok (.iload 7, 2) := by decide +kernel
theorem dX6_say_279 : decode cX6_say 279 = .ok (.iconst 2, 1) := by decide +kernel
theorem dX6_say_280 : decode cX6_say 280 = .ok (.iload_n 3, 1) := by decide +kernel
theorem dX6_say_281 : decode cX6_say 281 = .ok (.iload 8, 2) := by decide +kernel
theorem dX6_say_283 : decode cX6_say 283 = .ok (.invokevirtual 36, 3) := by decide +kernel
theorem dX6_say_286 : decode cX6_say 286 = .ok (.aload_n 0, 1) := by decide +kernel
theorem dX6_say_287 : decode cX6_say 287 = .ok (.getfield 26, 3) := by decide +kernel
theorem dX6_say_290 : decode cX6_say 290 = .ok (.ixor, 1) := by decide +kernel
theorem dX6_say_291 : decode cX6_say 291 = .ok (.ireturn, 1) := by decide +kernel
theorem dX6_say_292 : decode cX6_say 292 = .ok (.aload_n 0, 1) := by decide +kernel
theorem dX6_say_293 : decode cX6_say 293 = .ok (.iload 7, 2) := by decide +kernel
theorem dX6_say_295 : decode cX6_say 295 = .ok (.iconst 1, 1) := by decide +kernel
theorem dX6_say_296 : decode cX6_say 296 = .ok (.iload_n 3, 1) := by decide +kernel
theorem dX6_say_297 : decode cX6_say 297 = .ok (.iconst 1, 1) := by decide +kernel
theorem dX6_say_298 : decode cX6_say 298 = .ok (.iadd, 1) := by decide +kernel
theorem dX6_say_299 : decode cX6_say 299 = .ok (.iload 8, 2) := by decide +kernel
theorem dX6_say_301 : decode cX6_say 301 = .ok (.invokevirtual 36, 3) := by decide +kernel
theorem dX6_say_304 : decode cX6_say 304 = .ok (.ireturn, 1) := by decide +kernel
theorem dX6_say_305 : decode cX6_say 305 = .ok (.iconst 2, 1) := by decide +kernel
theorem dX6_say_306 : decode cX6_say 306 = .ok (.ireturn, 1) := by decide +kernel
theorem dX6_say_307 : decode cX6_say 307 = .ok (.aload_n 0, 1) := by decide +kernel
theorem dX6_say_308 : decode cX6_say 308 = .ok (.iload 7, 2) := by decide +kernel
theorem dX6_say_310 : decode cX6_say 310 = .ok (.iconst 1, 1) := by decide +kernel
theorem dX6_say_311 : decode cX6_say 311 = .ok (.iload_n 3, 1) := by decide +kernel
theorem dX6_say_312 : decode cX6_say 312 = .ok (.iload 8, 2) := by decide +kernel
theorem dX6_say_314 : decode cX6_say 314 = .ok (.invokevirtual 36, 3) := by decide +kernel
theorem dX6_say_317 : decode cX6_say 317 = .ok (.aload_n 0, 1) := by decide +kernel
theorem dX6_say_318 : decode cX6_say 318 = .ok (.getfield 25, 3) := by decide +kernel
theorem dX6_say_321 : decode cX6_say 321 = .ok (.iadd, 1) := by decide +kernel
theorem dX6_say_322 : decode cX6_say 322 = .ok (.ireturn, 1) := by decide +kernel
theorem dX6_say_323 : decode cX6_say 323 = .ok (.iconst 0, 1) := by decide +kernel
theorem dX6_say_324 : decode cX6_say 324 = .ok (.ireturn, 1) := by decide +kernel
theorem dX6_part_0 : decode cX6_part 0 = .ok (.aload_n 0, 1) := by decide +kernel
theorem dX6_part_1 : decode cX6_part 1 = .ok (.getfield 25, 3) := by decide +kernel
theorem dX6_part_4 : decode cX6_part 4 = .ok (.aload_n 0, 1) := by decide +kernel
theorem dX6_part_5 : decode cX6_part 5 = .ok (.getfield 26, 3) := by decide +kernel
theorem dX6_part_8 : decode cX6_part 8 = .ok (.isub, 1) := by decide +kernel
theorem dX6_part_9 : decode cX6_part 9 = .ok (.istore_n 2, 1) := by decide +kernel
theorem dX6_part_10 : decode cX6_part 10 = .ok (.iload_n 2, 1) := by decide +kernel
theorem dX6_part_11 : decode cX6_part 11 = .ok (.ifCond .ne 10, 3) := by decide +kernel
theorem dX6_part_14 : decode cX6_part 14 = .ok (.aload_n 0, 1) := by decide +kernel
theorem dX6_part_15 : decode cX6_part 15 = .ok (.iconst 1, 1) := by decide +kernel
theorem dX6_part_16 : decode cX6_part 16 = .ok (.putfield 32, 3) := by decide +kernel
theorem dX6_part_19 : decode cX6_part 19 = .ok (.iconst 0, 1) := by decide +kernel
theorem dX6_part_20 : decode cX6_part 20 = .ok (.ireturn, 1) := by decide +kernel
theorem dX6_part_21 : decode cX6_part 21 = .ok (.iload_n 1, 1) := by decide +kernel
theorem dX6_part_22 : decode cX6_part 22 = .ok (.iload_n 2, 1) := by decide +kernel
theorem dX6_part_23 : decode cX6_part 23 = .ok (.idiv, 1) := by decide +kernel
theorem dX6_part_24 : decode cX6_part 24 = .ok (.ireturn, 1) := by decide +kernel
theorem dX6_partAndFill_0 : decode cX6_partAndFill 0 = .ok (.aload_n 0, 1) := by decide +kernel
theorem dX6_partAndFill_1 : decode cX6_partAndFill 1 = .ok (.iload_n 1, 1) := by decide +kernel
theorem dX6_partAndFill_2 : decode cX6_partAndFill 2 = .ok (.iconst 3, 1) := by decide +kernel
theorem dX6_partAndFill_3 : decode cX6_partAndFill 3 = .ok (.iload_n 2, 1) := by decide +kernel
theorem dX6_partAndFill_4 : decode cX6_partAndFill 4 = .ok (.iload_n 3, 1) := by decide +kernel
theorem dX6_partAndFill_5 : decode cX6_partAndFill 5 = .ok (.invokevirtual 36, 3) := by decide +kernel
theorem dX6_partAndFill_8 : decode cX6_partAndFill 8 = .ok (.istore 4, 2) := by decide +kernel
theorem dX6_partAndFill_10 : decode cX6_partAndFill 10 = .ok (.aload_n 0, 1) := by decide +kernel
theorem dX6_partAndFill_11 : decode cX6_partAndFill 11 = .ok (.getfield 32, 3) := by decide +kernel
theorem dX6_partAndFill_14 : decode cX6_partAndFill 14 = .ok (.ifCond .eq 7, 3) := by decide +kernel
theorem dX6_partAndFill_17 : decode cX6_partAndFill 17 = .ok (.iconst 0, 1) := by decide +kernel
theorem dX6_partAndFill_18 : decode cX6_partAndFill 18 = .ok (.goto 17, 3) := by decide +kernel
theorem dX6_partAndFill_21 : decode cX6_partAndFill 21 = .ok (.iload 4, 2) := by decide +kernel
theorem dX6_partAndFill_23 : decode cX6_partAndFill 23 = .ok (.aload_n 0, 1) := by decide +kernel
theorem dX6_partAndFill_24 : decode cX6_partAndFill 24 = .ok (.aload_n 0, 1) := by decide +kernel
theorem dX6_partAndFill_25 : decode cX6_partAndFill 25 = .ok (.getfield 21, 3) := by decide +kernel
theorem dX6_partAndFill_28 : decode cX6_partAndFill 28 = .ok (.iconst 1, 1) := by decide +kernel
theorem dX6_partAndFill_29 : decode cX6_partAndFill 29 = .ok (.iconst 1, 1) := by decide +kernel
theorem dX6_partAndFill_30 : decode cX6_partAndFill 30 = .ok (.iload_n 3, 1) := by decide +kernel
theorem dX6_partAndFill_31 : decode cX6_partAndFill 31 = .ok (.invokevirtual 36, 3) := by decide +kernel
theorem dX6_partAndFill_34 : decode cX6_partAndFill 34 = .ok (.iadd, 1) := by decide +kernel
theorem dX6_partAndFill_35 : decode cX6_partAndFill 35 = .ok (.ireturn, 1) := by decide +kernel
theorem dX6_note_0 : decode cX6_note 0 = .ok (.aload_n 0, 1) := by decide +kernel
theorem dX6_note_1 : decode cX6_note 1 = .ok (.getfield 29, 3) := by decide +kernel
theorem dX6_note_4 : decode cX6_note 4 = .ok (.bipush 30, 2) := by decide +kernel
theorem dX6_note_6 : decode cX6_note 6 = .ok (.if_icmp .ge 23, 3) := by decide +kernel
theorem dX6_note_9 : decode cX6_note 9 = .ok (.aload_n 0, 1) := by decide +kernel
theorem dX6_note_10 : decode cX6_note 10 = .ok (.getfield 9, 3) := by decide +kernel
theorem dX6_note_13 : decode cX6_note 13 = .ok (.aload_n 0, 1) := by decide +kernel
theorem dX6_note_14 : decode cX6_note 14 = .ok (.getfield 29, 3) := by decide +kernel
theorem dX6_note_17 : decode cX6_note 17 = .ok (.iload_n 1, 1) := by decide +kernel
theorem dX6_note_18 : decode cX6_note 18 = .ok (.iastore, 1) := by decide +kernel
theorem dX6_note_19 : decode cX6_note 19 = .ok (.aload_n 0, 1) := by decide +kernel
theorem dX6_note_20 : decode cX6_note 20 = .ok (.dup, 1) := by decide +kernel
theorem dX6_note_21 : decode cX6_note 21 = .ok (.getfield 29, 3) := by decide +kernel
theorem dX6_note_24 : decode cX6_note 24 = .ok (.iconst 1, 1) := by decide +kernel
theorem dX6_note_25 : decode cX6_note 25 = .ok (.iadd, 1) := by decide +kernel
theorem dX6_note_26 : decode cX6_note 26 = .ok (.putfield 29, 3) := by decide +kernel
theorem dX6_note_29 : decode cX6_note 29 = .ok (.return_, 1) := by decide +kernel
theorem dX6_ownerOf_0 : decode cX6_ownerOf 0 = .ok (.iload_n 0, 1) := by decide +kernel
theorem dX6_ownerOf_1 : decode cX6_ownerOf 1 = .ok (.istore_n 2, 1) := by decide +kernel
theorem dX6_ownerOf_2 : decode cX6_ownerOf 2 = .ok (.iconst 0, 1) := by decide +kernel
theorem dX6_ownerOf_3 : decode cX6_ownerOf 3 = .ok (.istore_n 3, 1) := by decide +kernel
theorem dX6_ownerOf_4 : decode cX6_ownerOf 4 = .ok (.iload_n 3, 1) := by decide +kernel
theorem dX6_ownerOf_5 : decode cX6_ownerOf 5 = .ok (.bipush 7, 2) := by decide +kernel
theorem dX6_ownerOf_7 : decode cX6_ownerOf 7 = .ok (.if_icmp .ge 39, 3) := by decide +kernel
theorem dX6_ownerOf_10 : decode cX6_ownerOf 10 = .ok (.iload_n 2, 1) := by decide +kernel
theorem dX6_ownerOf_11 : decode cX6_ownerOf 11 = .ok (.iconst 0, 1) := by decide +kernel
theorem dX6_ownerOf_12 : decode cX6_ownerOf 12 = .ok (.bipush 6, 2) := by decide +kernel
theorem dX6_ownerOf_14 : decode cX6_ownerOf 14 = .ok (.invokestatic 62, 3) := by decide +kernel
theorem dX6_ownerOf_17 : decode cX6_ownerOf 17 = .ok (.ifCond .eq 29, 3) := by decide +kernel
theorem dX6_ownerOf_20 : decode cX6_ownerOf 20 = .ok (.getstatic 44, 3) := by decide +kernel
theorem dX6_ownerOf_23 : decode cX6_ownerOf 23 = .ok (.iload_n 2, 1) := by decide +kernel
theorem dX6_ownerOf_24 : decode cX6_ownerOf 24 = .ok (.iconst 4, 1) := by decide +kernel
theorem dX6_ownerOf_25 : decode cX6_ownerOf 25 = .ok (.imul, 1) := by decide +kernel
theorem dX6_ownerOf_26 : decode cX6_ownerOf 26 = .ok (.iload_n 1, 1) := by decide +kernel
theorem dX6_ownerOf_27 : decode cX6_ownerOf 27 = .ok (.iadd, 1) := by decide +kernel
theorem dX6_ownerOf_28 : decode cX6_ownerOf 28 = .ok (.iaload, 1) := by decide +kernel
theorem dX6_ownerOf_29 : decode cX6_ownerOf 29 = .ok (.ifCond .eq 5, 3) := by decide +kernel
theorem dX6_ownerOf_32 : decode cX6_ownerOf 32 = .ok (.iload_n 2, 1) := by decide +kernel
theorem dX6_ownerOf_33 : decode cX6_ownerOf 33 = .ok (.ireturn, 1) := by decide +kernel
theorem dX6_ownerOf_34 : decode cX6_ownerOf 34 = .ok (.getstatic 51, 3) := by decide +kernel
theorem dX6_ownerOf_37 : decode cX6_ownerOf 37 = .ok (.iload_n 2, 1) := by decide +kernel
theorem dX6_ownerOf_38 : decode cX6_ownerOf 38 = .ok (.iaload, 1) := by decide +kernel
theorem dX6_ownerOf_39 : decode cX6_ownerOf 39 = .ok (.istore_n 2, 1) := by decide +kernel
theorem dX6_ownerOf_40 : decode cX6_ownerOf 40 = .ok (.iinc 3 1, 3) := by decide +kernel
theorem dX6_ownerOf_43 : decode cX6_ownerOf 43 = .ok (.goto (-39), 3) := by decide +kernel
theorem dX6_ownerOf_46 : decode cX6_ownerOf 46 = .ok (.iconst (-1), 1) := by decide +kernel
theorem dX6_ownerOf_47 : decode cX6_ownerOf 47 = .ok (.ireturn, 1) := by decide +kernel
theorem dX7_init_0 : decode cX7_init 0 = .ok (.aload_n 0, 1) := by decide +kernel
theorem dX7_init_1 : decode cX7_init 1 = .ok (.invokespecial 3, 3) := by decide +kernel
theorem dX7_init_4 : decode cX7_init 4 = .ok (.aload_n 0, 1) := by decide +kernel
theorem dX7_init_5 : decode cX7_init 5 = .ok (.bipush 6, 2) := by decide +kernel
theorem dX7_init_7 : decode cX7_init 7 = .ok (.newarray .int, 2) := by decide +kernel
theorem dX7_init_9 : decode cX7_init 9 = .ok (.putfield 9, 3) := by decide +kernel
theorem dX7_init_12 : decode cX7_init 12 = .ok (.aload_n 0, 1) := by decide +kernel
theorem dX7_init_13 : decode cX7_init 13 = .ok (.bipush 6, 2) := by decide +kernel
theorem dX7_init_15 : decode cX7_init 15 = .ok (.anewarray 15, 3) := by decide +kernel
theorem dX7_init_18 : decode cX7_init 18 = .ok (.putfield 17, 3) := by decide +kernel
theorem dX7_init_21 : decode cX7_init 21 = .ok (.aload_n 0, 1) := by decide +kernel
theorem dX7_init_22 : decode cX7_init 22 = .ok (.bipush 10, 2) := by decide +kernel
theorem dX7_init_24 : decode cX7_init 24 = .ok (.anewarray 21, 3) := by decide +kernel
theorem dX7_init_27 : decode cX7_init 27 = .ok (.putfield 23, 3) := by decide +kernel
theorem dX7_init_30 : decode cX7_init 30 = .ok (.aload_n 0, 1) := by decide +kernel
theorem dX7_init_31 : decode cX7_init 31 = .ok (.iconst 1, 1) := by decide +kernel
theorem dX7_init_32 : decode cX7_init 32 = .ok (.putfield 27, 3) := by decide +kernel
theorem dX7_init_35 : decode cX7_init 35 = .ok (.aload_n 0, 1) := by decide +kernel
theorem dX7_init_36 : decode cX7_init 36 = .ok (.iconst 2, 1) := by decide +kernel
theorem dX7_init_37 : decode cX7_init 37 = .ok (.anewarray 31, 3) := by decide +kernel
theorem dX7_init_40 : decode cX7_init 40 = .ok (.putfield 33, 3) := by decide +kernel
theorem dX7_init_43 : decode cX7_init 43 = .ok (.aload_n 0, 1) := by decide +kernel
theorem dX7_init_44 : decode cX7_init 44 = .ok (.bipush 60, 2) := by decide +kernel
theorem dX7_init_46 : decode cX7_init 46 = .ok (.newarray .int, 2) := by decide +kernel
theorem dX7_init_48 : decode cX7_init 48 = .ok (.putfield 37, 3) := by decide +kernel
theorem dX7_init_51 : decode cX7_init 51 = .ok (.aload_n 0, 1) := by decide +kernel
theorem dX7_init_52 : decode cX7_init 52 = .ok (.bipush 24, 2) := by decide +kernel
theorem dX7_init_54 : decode cX7_init 54 = .ok (.newarray .int, 2) := by decide +kernel
theorem dX7_init_56 : decode cX7_init 56 = .ok (.putfield 40, 3) := by decide +kernel
theorem dX7_init_59 : decode cX7_init 59 = .ok (.aload_n 0, 1) := by decide +kernel
theorem dX7_init_60 : decode cX7_init 60 = .ok (.getfield 9, 3) := by decide +kernel
theorem dX7_init_63 : decode cX7_init 63 = .ok (.iconst 5, 1) := by decide +kernel
theorem dX7_init_64 : decode cX7_init 64 = .ok (.invokestatic 43, 3) := by decide +kernel
theorem dX7_init_67 : decode cX7_init 67 = .ok (.iconst 0, 1) := by decide +kernel
theorem dX7_init_68 : decode cX7_init 68 = .ok (.istore_n 1, 1) := by decide +kernel
theorem dX7_init_69 : decode cX7_init 69 = .ok (.iload_n 1, 1) := by decide +kernel
theorem dX7_init_70 : decode cX7_init 70 = .ok (.bipush 6, 2) := by decide +kernel
theorem dX7_init_72 : decode cX7_init 72 = .ok (.if_icmp .ge 22, 3) := by decide +kernel
theorem dX7_init_75 : decode cX7_init 75 = .ok (.aload_n 0, 1) := by decide +kernel
theorem dX7_init_76 : decode cX7_init 76 = .ok (.getfield 17, 3) := by decide +kernel
theorem dX7_init_79 : decode cX7_init 79 = .ok (.iload_n 1, 1) := by decide +kernel
theorem dX7_init_80 : decode cX7_init 80 = .ok (.new 15, 3) := by decide +kernel
theorem dX7_init_83 : decode cX7_init 83 = .ok (.dup, 1) := by decide +kernel
theorem dX7_init_84 : decode cX7_init 84 = .ok (.invokespecial 49, 3) := by decide +kernel
theorem dX7_init_87 : decode cX7_init 87 = .ok (.aastore, 1) := by decide +kernel
theorem dX7_init_88 : decode cX7_init 88 = .ok (.iinc 1 1, 3) := by decide +kernel
theorem dX7_init_91 : decode cX7_init 91 = .ok (.goto (-22), 3) := by decide +kernel
theorem dX7_init_94 : decode cX7_init 94 = .ok (.iconst 0, 1) := by decide +kernel
theorem dX7_init_95 : decode cX7_init 95 = .ok (.istore_n 1, 1) := by decide +kernel
theorem dX7_init_96 : decode cX7_init 96 = .ok (.iload_n 1, 1) := by decide +kernel
theorem dX7_init_97 : decode cX7_init 97 = .ok (.bipush 10, 2) := by decide +kernel
theorem dX7_init_99 : decode cX7_init 99 = .ok (.if_icmp .ge 22, 3) := by decide +kernel
theorem dX7_init_102 : decode cX7_init 102 = .ok (.aload_n 0, 1) := by decide +kernel
theorem dX7_init_103 : decode cX7_init 103 = .ok (.getfield 23, 3) := by decide +kernel
theorem dX7_init_106 : decode cX7_init 106 = .ok (.iload_n 1, 1) := by decide +kernel
theorem dX7_init_107 : decode cX7_init 107 = .ok (.new 21, 3) := by decide +kernel
theorem dX7_init_110 : decode cX7_init 110 = .ok (.dup, 1) := by decide +kernel
theorem dX7_init_111 : decode cX7_init 111 = .ok (.invokespecial 50, 3) := by decide +kernel
theorem dX7_init_114 : decode cX7_init 114 = .ok (.aastore, 1) := by decide +kernel
theorem dX7_init_115 : decode cX7_init 115 = .ok (.iinc 1 1, 3) := by decide +kernel
theorem dX7_init_118 : decode cX7_init 118 = .ok (.goto (-22), 3) := by decide +kernel
theorem dX7_init_121 : decode cX7_init 121 = .ok (.iconst 0, 1) := by decide +kernel
theorem dX7_init_122 : decode cX7_init 122 = .ok (.istore_n 1, 1) := by decide +kernel
theorem dX7_init_123 : decode cX7_init 123 = .ok (.iload_n 1, 1) := by decide +kernel
theorem dX7_init_124 : decode cX7_init 124 = .ok (.iconst 2, 1) := by decide +kernel
theorem dX7_init_125 : decode cX7_init 125 = .ok (.if_icmp .ge 22, 3) := by decide +kernel
theorem dX7_init_128 : decode cX7_init 128 = .ok (.aload_n 0, 1) := by decide +kernel
theorem dX7_init_129 : decode cX7_init 129 = .ok (.getfield 33, 3) := by decide +kernel
theorem dX7_init_132 : decode cX7_init 132 = .ok (.iload_n 1, 1) := by decide +kernel
theorem dX7_init_133 : decode cX7_init 133 = .ok (.new 31, 3) := by decide +kernel
theorem dX7_init_136 : decode cX7_init 136 = .ok (.dup, 1) := by decide +kernel
theorem dX7_init_137 : decode cX7_init 137 = .ok (.invokespecial 51, 3) := by decide +kernel
theorem dX7_init_140 : decode cX7_init 140 = .ok (.aastore, 1) := by decide +kernel
theorem dX7_init_141 : decode cX7_init 141 = .ok (.iinc 1 1, 3) := by decide +kernel
theorem dX7_init_144 : decode cX7_init 144 = .ok (.goto (-21), 3) := by decide +kernel
theorem dX7_init_147 : decode cX7_init 147 = .ok (.return_, 1) := by decide +kernel
theorem dX7_copyFrom_0 : decode cX7_copyFrom 0 = .ok (.aload_n 0, 1) := by decide +kernel
theorem dX7_copyFrom_1 : decode cX7_copyFrom 1 = .ok (.aload_n 1, 1) := by decide +kernel
theorem dX7_copyFrom_2 : decode cX7_copyFrom 2 = .ok (.getfield 52, 3) := by decide +kernel
theorem dX7_copyFrom_5 : decode cX7_copyFrom 5 = .ok (.putfield 52, 3) := by decide +kernel
theorem dX7_copyFrom_8 : decode cX7_copyFrom 8 = .ok (.aload_n 0, 1) := by decide +kernel
theorem dX7_copyFrom_9 : decode cX7_copyFrom 9 = .ok (.aload_n 1, 1) := by decide +kernel
theorem dX7_copyFrom_10 : decode cX7_copyFrom 10 = .ok (.getfield 55, 3) := by decide +kernel
theorem dX7_copyFrom_13 : decode cX7_copyFrom 13 = .ok (.putfield 55, 3) := by decide +kernel
theorem dX7_copyFrom_16 : decode cX7_copyFrom 16 = .ok (.aload_n 0, 1) := by decide +kernel
theorem dX7_copyFrom_17 : decode cX7_copyFrom 17 = .ok (.aload_n 1, 1) := by decide +kernel
theorem dX7_copyFrom_18 : decode cX7_copyFrom 18 = .ok (.getfield 58, 3) := by decide +kernel
theorem dX7_copyFrom_21 : decode cX7_copyFrom 21 = .ok (.putfield 58, 3) := by decide +kernel
theorem dX7_copyFrom_24 : decode cX7_copyFrom 24 = .ok (.aload_n 0, 1) := by decide +kernel
theorem dX7_copyFrom_25 : decode cX7_copyFrom 25 = .ok (.aload_n 1, 1) := by decide +kernel
theorem dX7_copyFrom_26 : decode cX7_copyFrom 26 = .ok (.getfield 61, 3) := by decide +kernel
theorem dX7_copyFrom_29 : decode cX7_copyFrom 29 = .ok (.putfield 61, 3) := by decide +kernel
theorem dX7_copyFrom_32 : decode cX7_copyFrom 32 = .ok (.aload_n 0, 1) := by decide +kernel
theorem dX7_copyFrom_33 : decode cX7_copyFrom 33 = .ok (.aload_n 1, 1) := by decide +kernel
theorem dX7_copyFrom_34 : decode cX7_copyFrom 34 = .ok (.getfield 27, 3) := by decide +kernel
theorem dX7_copyFrom_37 : decode cX7_copyFrom 37 = .ok (.putfield 27, 3) := by decide +kernel
theorem dX7_copyFrom_40 : decode cX7_copyFrom 40 = .ok (.aload_n 0, 1) := by decide +kernel
theorem dX7_copyFrom_41 : decode cX7_copyFrom 41 = .ok (.aload_n 1, 1) := by decide +kernel
theorem dX7_copyFrom_42 : decode cX7_copyFrom 42 = .ok (.getfield 64, 3) := by decide +kernel
theorem dX7_copyFrom_45 : decode cX7_copyFrom 45 = .ok (.putfield 64, 3) := by decide +kernel
theorem dX7_copyFrom_48 : decode cX7_copyFrom 48 = .ok (.iconst 0, 1) := by decide +kernel
theorem dX7_copyFrom_49 : decode cX7_copyFrom 49 = .ok (.istore_n 2, 1) := by decide +kernel
theorem dX7_copyFrom_50 : decode cX7_copyFrom 50 = .ok (.iload_n 2, 1) := by decide +kernel
theorem dX7_copyFrom_51 : decode cX7_copyFrom 51 = .ok (.aload_n 0, 1) := by decide +kernel
theorem dX7_copyFrom_52 : decode cX7_copyFrom 52 = .ok (.getfield 64, 3) := by decide +kernel
theorem dX7_copyFrom_55 : decode cX7_copyFrom 55 = .ok (.if_icmp .ge 24, 3) := by decide +kernel
theorem dX7_copyFrom_58 : decode cX7_copyFrom 58 = .ok (.aload_n 0, 1) := by decide +kernel
theorem dX7_copyFrom_59 : decode cX7_copyFrom 59 = .ok (.getfield 17, 3) := by decide +kernel
theorem dX7_copyFrom_62 : decode cX7_copyFrom 62 = .ok (.iload_n 2, 1) := by decide +kernel
theorem dX7_copyFrom_63 : decode cX7_copyFrom 63 = .ok (.aaload, 1) := by decide +kernel
theorem dX7_copyFrom_64 : decode cX7_copyFrom 64 = .ok (.aload_n 1, 1) := by decide +kernel
theorem dX7_copyFrom_65 : decode cX7_copyFrom 65 = .ok (.getfield 17, 3) := by decide +kernel
theorem dX7_copyFrom_68 : decode cX7_copyFrom 68 = .ok (.iload_n 2, 1) := by decide +kernel
theorem dX7_copyFrom_69 : decode cX7_copyFrom 69 = .ok (.aaload, 1) := by decide +kernel
theorem dX7_copyFrom_70 : decode cX7_copyFrom 70 = .ok (.invokevirtual 67, 3) := by decide +kernel
theorem dX7_copyFrom_73 : decode cX7_copyFrom 73 = .ok (.iinc 2 1, 3) := by decide +kernel
theorem dX7_copyFrom_76 : decode cX7_copyFrom 76 = .ok (.goto (-26), 3) := by decide +kernel
theorem dX7_copyFrom_79 : decode cX7_copyFrom 79 = .ok (.aload_n 0, 1) := by decide +kernel
theorem dX7_copyFrom_80 : decode cX7_copyFrom 80 = .ok (.aload_n 1, 1) := by decide +kernel
theorem dX7_copyFrom_81 : decode cX7_copyFrom 81 = .ok (.getfield 71, 3) := by decide +kernel
theorem dX7_copyFrom_84 : decode cX7_copyFrom 84 = .ok (.putfield 71, 3) := by decide +kernel
theorem dX7_copyFrom_87 : decode cX7_copyFrom 87 = .ok (.iconst 0, 1) := by decide +kernel
theorem dX7_copyFrom_88 : decode cX7_copyFrom 88 = .ok (.istore_n 2, 1) := by decide +kernel
theorem dX7_copyFrom_89 : decode cX7_copyFrom 89 = .ok (.iload_n 2, 1) := by decide +kernel
theorem dX7_copyFrom_90 : decode cX7_copyFrom 90 = .ok (.aload_n 0, 1) := by decide +kernel
theorem dX7_copyFrom_91 : decode cX7_copyFrom 91 = .ok (.getfield 71, 3) := by decide +kernel
theorem dX7_copyFrom_94 : decode cX7_copyFrom 94 = .ok (.if_icmp .ge 24, 3) := by decide +kernel
theorem dX7_copyFrom_97 : decode cX7_copyFrom 97 = .ok (.aload_n 0, 1) := by decide +kernel
theorem dX7_copyFrom_98 : decode cX7_copyFrom 98 = .ok (.getfield 23, 3) := by decide +kernel
theorem dX7_copyFrom_101 : decode cX7_copyFrom 101 = .ok (.iload_n 2, 1) := by decide +kernel
theorem dX7_copyFrom_102 : decode cX7_copyFrom 102 = .ok (.aaload, 1) := by decide +kernel
theorem dX7_copyFrom_103 : decode cX7_copyFrom 103 = .ok (.aload_n 1, 1) := by decide +kernel
theorem dX7_copyFrom_104 : decode cX7_copyFrom 104 = .ok (.getfield 23, 3) := by decide +kernel
theorem dX7_copyFrom_107 : decode cX7_copyFrom 107 = .ok (.iload_n 2, 1) := by decide +kernel
theorem dX7_copyFrom_108 : decode cX7_copyFrom 108 = .ok (.aaload, 1) := by decide +kernel
theorem dX7_copyFrom_109 : decode cX7_copyFrom 109 = .ok (.invokevirtual 74, 3) := by decide +kernel
theorem dX7_copyFrom_112 : decode cX7_copyFrom 112 = .ok (.iinc 2 1, 3) := by decide +kernel
theorem dX7_copyFrom_115 : decode cX7_copyFrom 115 = .ok (.goto (-26), 3) := by decide +kernel
theorem dX7_copyFrom_118 : decode cX7_copyFrom 118 = .ok (.iconst 0, 1) := by decide +kernel
theorem dX7_copyFrom_119 : decode cX7_copyFrom 119 = .ok (.istore_n 2, 1) := by decide +kernel
theorem dX7_copyFrom_120 : decode cX7_copyFrom 120 = .ok (.iload_n 2, 1) := by decide +kernel
theorem dX7_copyFrom_121 : decode cX7_copyFrom 121 = .ok (.iconst 2, 1) := by decide +kernel
theorem dX7_copyFrom_122 : decode cX7_copyFrom 122 = .ok (.if_icmp .ge 36, 3) := by decide +kernel
theorem dX7_copyFrom_125 : decode cX7_copyFrom 125 = .ok (.aload_n 0, 1) := by decide +kernel
theorem dX7_copyFrom_126 : decode cX7_copyFrom 126 = .ok (.getfield 33, 3) := by decide +kernel
theorem dX7_copyFrom_129 : decode cX7_copyFrom 129 = .ok (.iload_n 2, 1) := by decide +kernel
theorem dX7_copyFrom_130 : decode cX7_copyFrom 130 = .ok (.aaload, 1) := by decide +kernel
theorem dX7_copyFrom_131 : decode cX7_copyFrom 131 = .ok (.aload_n 1, 1) := by decide +kernel
theorem dX7_copyFrom_132 : decode cX7_copyFrom 132 = .ok (.getfield 33, 3) := by decide +kernel
theorem dX7_copyFrom_135 : decode cX7_copyFrom 135 = .ok (.iload_n 2, 1) := by decide +kernel
theorem dX7_copyFrom_136 : decode cX7_copyFrom 136 = .ok (.aaload, 1) := by decide +kernel
theorem dX7_copyFrom_137 : decode cX7_copyFrom 137 = .ok (.getfield 77, 3) := by decide +kernel
theorem dX7_copyFrom_140 : decode cX7_copyFrom 140 = .ok (.aload_n 1, 1) := by decide +kernel
theorem dX7_copyFrom_141 : decode cX7_copyFrom 141 = .ok (.getfield 33, 3) := by decide +kernel
theorem dX7_copyFrom_144 : decode cX7_copyFrom 144 = .ok (.iload_n 2, 1) := by decide +kernel
theorem dX7_copyFrom_145 : decode cX7_copyFrom 145 = .ok (.aaload, 1) := by decide +kernel
theorem dX7_copyFrom_146 : decode cX7_copyFrom 146 = .ok (.getfield 80, 3) := by decide +kernel
theorem dX7_copyFrom_149 : decode cX7_copyFrom 149 = .ok (.invokevirtual 83, 3) := by decide +kernel
theorem dX7_copyFrom_152 : decode cX7_copyFrom 152 = .ok (.iinc 2 1, 3) := by decide +kernel
theorem dX7_copyFrom_155 : decode cX7_copyFrom 155 = .ok (.goto (-35), 3) := by decide +kernel
theorem dX7_copyFrom_158 : decode cX7_copyFrom 158 = .ok (.aload_n 0, 1) := by decide +kernel
theorem dX7_copyFrom_159 : decode cX7_copyFrom 159 = .ok (.aload_n 1, 1) := by decide +kernel
theorem dX7_copyFrom_160 : decode cX7_copyFrom 160 = .ok (.getfield 86, 3) := by decide +kernel
theorem dX7_copyFrom_163 : decode cX7_copyFrom 163 = .ok (.putfield 86, 3) := by decide +kernel
theorem dX7_copyFrom_166 : decode cX7_copyFrom 166 = .ok (.aload_n 1, 1) := by decide +kernel
theorem dX7_copyFrom_167 : decode cX7_copyFrom 167 = .ok (.getfield 37, 3) := by decide +kernel
theorem dX7_copyFrom_170 : decode cX7_copyFrom 170 = .ok (.iconst 0, 1) := by decide +kernel
theorem dX7_copyFrom_171 : decode cX7_copyFrom 171 = .ok (.aload_n 0, 1) := by decide +kernel
theorem dX7_copyFrom_172 : decode cX7_copyFrom 172 = .ok (.getfield 37, 3) := by decide +kernel
theorem dX7_copyFrom_175 : decode cX7_copyFrom 175 = .ok (.iconst 0, 1) := by decide +kernel
theorem dX7_copyFrom_176 : decode cX7_copyFrom 176 = .ok (.aload_n 0, 1) := by decide +kernel
theorem dX7_copyFrom_177 : decode cX7_copyFrom 177 = .ok (.getfield 86, 3) := by decide +kernel
theorem dX7_copyFrom_180 : decode cX7_copyFrom 180 = .ok (.invokestatic 89, 3) := by decide +kernel
theorem dX7_copyFrom_183 : decode cX7_copyFrom 183 = .ok (.aload_n 0, 1) := by decide +kernel
theorem dX7_copyFrom_184 : decode cX7_copyFrom 184 = .ok (.aload_n 1, 1) := by decide +kernel
theorem dX7_copyFrom_185 : decode cX7_copyFrom 185 = .ok (.getfield 95, 3) := by decide +kernel
theorem dX7_copyFrom_188 : decode cX7_copyFrom 188 = .ok (.putfield 95, 3) := by decide +kernel
theorem dX7_copyFrom_191 : decode cX7_copyFrom 191 = .ok (.aload_n 1, 1) := by decide +kernel
theorem dX7_copyFrom_192 : decode cX7_copyFrom 192 = .ok (.getfield 40, 3) := by decide +kernel
theorem dX7_copyFrom_195 : decode cX7_copyFrom 195 = .ok (.iconst 0, 1) := by decide +kernel
theorem dX7_copyFrom_196 : decode cX7_copyFrom 196 = .ok (.aload_n 0, 1) := by decide +kernel
theorem dX7_copyFrom_197 : decode cX7_copyFrom 197 = .ok (.getfield 40, 3) := by decide +kernel
theorem dX7_copyFrom_200 : decode cX7_copyFrom 200 = .ok (.iconst 0, 1) := by decide +kernel
theorem dX7_copyFrom_201 : decode cX7_copyFrom 201 = .ok (.aload_n 0, 1) := by decide +kernel
theorem dX7_copyFrom_202 : decode cX7_copyFrom 202 = .ok (.getfield 95, 3) := by decide +kernel
theorem dX7_copyFrom_205 : decode cX7_copyFrom 205 = .ok (.invokestatic 89, 3) := by decide +kernel
theorem dX7_copyFrom_208 : decode cX7_copyFrom 208 = .ok (.aload_n 1, 1) := by decide +kernel
theorem dX7_copyFrom_209 : decode cX7_copyFrom 209 = .ok (.getfield 9, 3) := by decide +kernel
theorem dX7_copyFrom_212 : decode cX7_copyFrom 212 = .ok (.iconst 0, 1) := by decide +kernel
theorem dX7_copyFrom_213 : decode cX7_copyFrom 213 = .ok (.aload_n 0, 1) := by decide +kernel
theorem dX7_copyFrom_214 : decode cX7_copyFrom 214 = .ok (.getfield 9, 3) := by decide +kernel
theorem dX7_copyFrom_217 : decode cX7_copyFrom 217 = .ok (.iconst 0, 1) := by decide +kernel
theorem dX7_copyFrom_218 : decode cX7_copyFrom 218 = .ok (.bipush 6, 2) := by decide +kernel
theorem dX7_copyFrom_220 : decode cX7_copyFrom 220 = .ok (.invokestatic 89, 3) := by decide +kernel
theorem dX7_copyFrom_223 : decode cX7_copyFrom 223 = .ok (.return_, 1) := by decide +kernel
theorem dX7_hasShop_0 : decode cX7_hasShop 0 = .ok (.iload_n 1, 1) := by decide +kernel
theorem dX7_hasShop_1 : decode cX7_hasShop 1 = .ok (.iconst 0, 1) := by decide +kernel
theorem dX7_hasShop_2 : decode cX7_hasShop 2 = .ok (.aload_n 0, 1) := by decide +kernel
theorem dX7_hasShop_3 : decode cX7_hasShop 3 = .ok (.getfield 64, 3) := by decide +kernel
theorem dX7_hasShop_6 : decode cX7_hasShop 6 = .ok (.iconst 1, 1) := by decide +kernel
theorem dX7_hasShop_7 : decode cX7_hasShop 7 = .ok (.isub, 1) := by decide +kernel
theorem dX7_hasShop_8 : decode cX7_hasShop 8 = .ok (.invokestatic 98, 3) := by decide +kernel
theorem dX7_hasShop_11 : decode cX7_hasShop 11 = .ok (.ireturn, 1) := by decide +kernel
theorem dX7_hasCustomer_0 : decode cX7_hasCustomer 0 = .ok (.iload_n 1, 1) := by decide +kernel
theorem dX7_hasCustomer_1 : decode cX7_hasCustomer 1 = .ok (.iconst 0, 1) := by decide +kernel
theorem dX7_hasCustomer_2 : decode cX7_hasCustomer 2 = .ok (.aload_n 0, 1) := by decide +kernel
theorem dX7_hasCustomer_3 : decode cX7_hasCustomer 3 = .ok (.getfield 71, 3) := by decide +kernel
theorem dX7_hasCustomer_6 : decode cX7_hasCustomer 6 = .ok (.iconst 1, 1) := by decide +kernel
theorem dX7_hasCustomer_7 : decode cX7_hasCustomer 7 = .ok (.isub, 1) := by decide +kernel
theorem dX7_hasCustomer_8 : decode cX7_hasCustomer 8 = .ok (.invokestatic 98, 3) := by decide +kernel
theorem dX7_hasCustomer_11 : decode cX7_hasCustomer 11 = .ok (.ireturn, 1) := by decide +kernel
theorem dX7_welcome_0 : decode cX7_welcome 0 = .ok (.aload_n 0, 1) := by decide +kernel
theorem dX7_welcome_1 : decode cX7_welcome 1 = .ok (.getfield 23, 3) := by decide +kernel
theorem dX7_welcome_4 : decode cX7_welcome 4 = .ok (.aload_n 0, 1) := by decide +kernel
theorem dX7_welcome_5 : decode cX7_welcome 5 = .ok (.getfield 71, 3) := by decide +kernel
theorem dX7_welcome_8 : decode cX7_welcome 8 = .ok (.aaload, 1) := by decide +kernel
theorem dX7_welcome_9 : decode cX7_welcome 9 = .ok (.astore 4, 2) := by decide +kernel
theorem dX7_welcome_11 : decode cX7_welcome 11 = .ok (.aload 4, 2) := by decide +kernel
theorem dX7_welcome_13 : decode cX7_welcome 13 = .ok (.iload_n 1, 1) := by decide +kernel
theorem dX7_welcome_14 : decode cX7_welcome 14 = .ok (.putfield 102, 3) := by decide +kernel
theorem dX7_welcome_17 : decode cX7_welcome 17 = .ok (.aload 4, 2) := by decide +kernel
theorem dX7_welcome_19 : decode cX7_welcome 19 = .ok (.iload_n 2, 1) := by decide +kernel
theorem dX7_welcome_20 : decode cX7_welcome 20 = .ok (.bipush 10, 2) := by decide +kernel
theorem dX7_welcome_22 : decode cX7_welcome 22 = .ok (.idiv, 1) := by decide +kernel
theorem dX7_welcome_23 : decode cX7_welcome 23 = .ok (.putfield 105, 3) := by decide +kernel
theorem dX7_welcome_26 : decode cX7_welcome 26 = .ok (.aload 4, 2) := by decide +kernel
theorem dX7_welcome_28 : decode cX7_welcome 28 = .ok (.iload_n 2, 1) := by decide +kernel
theorem dX7_welcome_29 : decode cX7_welcome 29 = .ok (.bipush 10, 2) := by decide +kernel
theorem dX7_welcome_31 : decode cX7_welcome 31 = .ok (.irem, 1) := by decide +kernel
theorem dX7_welcome_32 : decode cX7_welcome 32 = .ok (.putfield 108, 3) := by decide +kernel
theorem dX7_welcome_35 : decode cX7_welcome 35 = .ok (.aload 4, 2) := by decide +kernel
theorem dX7_welcome_37 : decode cX7_welcome 37 = .ok (.iload_n 3, 1) := by decide +kernel
theorem dX7_welcome_38 : decode cX7_welcome 38 = .ok (.putfield 111, 3) := by decide +kernel
theorem dX7_welcome_41 : decode cX7_welcome 41 = .ok (.aload_n 0, 1) := by decide +kernel
theorem dX7_welcome_42 : decode cX7_welcome 42 = .ok (.dup, 1) := by decide +kernel
theorem dX7_welcome_43 : decode cX7_welcome 43 = .ok (.getfield 71, 3) := by decide +kernel
theorem dX7_welcome_46 : decode cX7_welcome 46 = .ok (.iconst 1, 1) := by decide +kernel
theorem dX7_welcome_47 : decode cX7_welcome 47 = .ok (.iadd, 1) := by decide +kernel
theorem dX7_welcome_48 : decode cX7_welcome 48 = .ok (.putfield 71, 3) := by decide +kernel
theorem dX7_welcome_51 : decode cX7_welcome 51 = .ok (.return_, 1) := by decide +kernel
theorem dX7_factOf_0 : decode cX7_factOf 0 = .ok (.aload_n 0, 1) := by decide +kernel
theorem dX7_factOf_1 : decode cX7_factOf 1 = .ok (.getfield 17, 3) := by decide +kernel
theorem dX7_factOf_4 : decode cX7_factOf 4 = .ok (.iload_n 1, 1) := by decide +kernel
theorem dX7_factOf_5 : decode cX7_factOf 5 = .ok (.aaload, 1) := by decide +kernel
theorem dX7_factOf_6 : decode cX7_factOf 6 = .ok (.astore_n 3, 1) := by decide +kernel
theorem dX7_factOf_7 : decode cX7_factOf 7 = .ok (.iload_n 2, 1) := by decide +kernel
theorem dX7_factOf_8 : decode cX7_factOf 8 = .ok (.ifCond .ne 8, 3) := by decide +kernel
theorem dX7_factOf_11 : decode cX7_factOf 11 = .ok (.aload_n 3, 1) := by decide +kernel
theorem dX7_factOf_12 : decode cX7_factOf 12 = .ok (.getfield 114, 3) := by decide +kernel
theorem dX7_factOf_15 : decode cX7_factOf 15 = .ok (.ireturn, 1) := by decide +kernel
theorem dX7_factOf_16 : decode cX7_factOf 16 = .ok (.iload_n 2, 1) := by decide +kernel
theorem dX7_factOf_17 : decode cX7_factOf 17 = .ok (.iconst 1, 1) := by decide +kernel
theorem dX7_factOf_18 : decode cX7_factOf 18 = .ok (.if_icmp .ne 8, 3) := by decide +kernel
theorem dX7_factOf_21 : decode cX7_factOf 21 = .ok (.aload_n 3, 1) := by decide +kernel
theorem dX7_factOf_22 : decode cX7_factOf 22 = .ok (.getfield 117, 3) := by decide +kernel
theorem dX7_factOf_25 : decode cX7_factOf 25 = .ok (.ireturn, 1) := by decide +kernel
theorem dX7_factOf_26 : decode cX7_factOf 26 = .ok (.iload_n 2, 1) := by decide +kernel
theorem dX7_factOf_27 : decode cX7_factOf 27 = .ok (.iconst 2, 1) := by decide +kernel
theorem dX7_factOf_28 : decode cX7_factOf 28 = .ok (.if_icmp .ne 8, 3) := by decide +kernel
theorem dX7_factOf_31 : decode cX7_factOf 31 = .ok (.aload_n 3, 1) := by decide +kernel
theorem dX7_factOf_32 : decode cX7_factOf 32 = .ok (.getfield 120, 3) := by decide +kernel
theorem dX7_factOf_35 : decode cX7_factOf 35 = .ok (.ireturn, 1) := by decide +kernel
theorem dX7_factOf_36 : decode cX7_factOf 36 = .ok (.iload_n 2, 1) := by decide +kernel
theorem dX7_factOf_37 : decode cX7_factOf 37 = .ok (.bipush 9, 2) := by decide +kernel
theorem dX7_factOf_39 : decode cX7_factOf 39 = .ok (.if_icmp .ge 12, 3) := by decide +kernel
theorem dX7_factOf_42 : decode cX7_factOf 42 = .ok (.aload_n 3, 1) := by decide +kernel
theorem dX7_factOf_43 : decode cX7_factOf 43 = .ok (.getfield 123, 3) := by decide +kernel
theorem dX7_factOf_46 : decode cX7_factOf 46 = .ok (.iload_n 2, 1) := by decide +kernel
theorem dX7_factOf_47 : decode cX7_factOf 47 = .ok (.iconst 3, 1) := by decide +kernel
theorem dX7_factOf_48 : decode cX7_factOf 48 = .ok (.isub, 1) := by decide +kernel
theorem dX7_factOf_49 : decode cX7_factOf 49 = .ok (.iaload, 1) := by decide +kernel
theorem dX7_factOf_50 : decode cX7_factOf 50 = .ok (.ireturn, 1) := by decide +kernel
theorem dX7_factOf_51 : decode cX7_factOf 51 = .ok (.iload_n 2, 1) := by decide +kernel
theorem dX7_factOf_52 : decode cX7_factOf 52 = .ok (.bipush 15, 2) := by decide +kernel
theorem dX7_factOf_54 : decode cX7_factOf 54 = .ok (.if_icmp .ge 15, 3) := by decide +kernel
theorem dX7_factOf_57 : decode cX7_factOf 57 = .ok (.aload_n 3, 1) := by decide +kernel
theorem dX7_factOf_58 : decode cX7_factOf 58 = .ok (.getfield 126, 3) := by decide +kernel
theorem dX7_factOf_61 : decode cX7_factOf 61 = .ok (.iload_n 2, 1) := by decide +kernel
theorem dX7_factOf_62 : decode cX7_factOf 62 = .ok (.bipush 9, 2) := by decide +kernel
theorem dX7_factOf_64 : decode cX7_factOf 64 = .ok (.isub, 1) := by decide +kernel
theorem dX7_factOf_65 : decode cX7_factOf 65 = .ok (.iaload, 1) := by decide +kernel
theorem dX7_factOf_66 : decode cX7_factOf 66 = .ok (.goto 8, 3) := by decide +kernel
theorem dX7_factOf_69 : decode cX7_factOf 69 = .ok (.aload_n 0, 1) := by decide +kernel
theorem dX7_factOf_70 : decode cX7_factOf 70 = .ok (.iload_n 1, 1) := by decide +kernel
theorem dX7_factOf_71 : decode cX7_factOf 71 = .ok (.invokevirtual 129, 3) := by decide +kernel
theorem dX7_factOf_74 : decode cX7_factOf 74 = .ok (.ireturn, 1) := by decide +kernel
theorem dX7_leftOf_0 : decode cX7_leftOf 0 = .ok (.iload_n 1, 1) := by decide +kernel
theorem dX7_leftOf_1 : decode cX7_leftOf 1 = .ok (.ifCond .le 7, 3) := by decide +kernel
theorem dX7_leftOf_4 : decode cX7_leftOf 4 = .ok (.iload_n 1, 1) := by decide +kernel
theorem dX7_leftOf_5 : decode cX7_leftOf 5 = .ok (.iconst 1, 1) := by decide +kernel
theorem dX7_leftOf_6 : decode cX7_leftOf 6 = .ok (.isub, 1) := by decide +kernel
theorem dX7_leftOf_7 : decode cX7_leftOf 7 = .ok (.ireturn, 1) := by decide +kernel
theorem dX7_leftOf_8 : decode cX7_leftOf 8 = .ok (.aload_n 0, 1) := by decide +kernel
theorem dX7_leftOf_9 : decode cX7_leftOf 9 = .ok (.getfield 52, 3) := by decide +kernel
theorem dX7_leftOf_12 : decode cX7_leftOf 12 = .ok (.iconst 1, 1) := by decide +kernel
theorem dX7_leftOf_13 : decode cX7_leftOf 13 = .ok (.if_icmp .ne 12, 3) := by decide +kernel
theorem dX7_leftOf_16 : decode cX7_leftOf 16 = .ok (.aload_n 0, 1) := by decide +kernel
theorem dX7_leftOf_17 : decode cX7_leftOf 17 = .ok (.getfield 64, 3) := by decide +kernel
theorem dX7_leftOf_20 : decode cX7_leftOf 20 = .ok (.iconst 1, 1) := by decide +kernel
theorem dX7_leftOf_21 : decode cX7_leftOf 21 = .ok (.isub, 1) := by decide +kernel
theorem dX7_leftOf_22 : decode cX7_leftOf 22 = .ok (.goto 4, 3) := by decide +kernel
theorem dX7_leftOf_25 : decode cX7_leftOf 25 = .ok (.iconst (-1), 1) := by decide +kernel
theorem dX7_leftOf_26 : decode cX7_leftOf 26 = .ok (.ireturn, 1) := by decide +kernel
theorem dX7_stockOf_0 : decode cX7_stockOf 0 = .ok (.iload_n 1, 1) := by decide +kernel
theorem dX7_stockOf_1 : decode cX7_stockOf 1 = .ok (.ifCond .ge 7, 3) := by decide +kernel
theorem dX7_stockOf_4 : decode cX7_stockOf 4 = .ok (.iconst 0, 1) := by decide +kernel
theorem dX7_stockOf_5 : decode cX7_stockOf 5 = .ok (.goto 14, 3) := by decide +kernel
theorem dX7_stockOf_8 : decode cX7_stockOf 8 = .ok (.aload_n 0, 1) := by decide +kernel
theorem dX7_stockOf_9 : decode cX7_stockOf 9 = .ok (.getfield 17, 3) := by decide +kernel
theorem dX7_stockOf_12 : decode cX7_stockOf 12 = .ok (.iload_n 1, 1) := by decide +kernel
theorem dX7_stockOf_13 : decode cX7_stockOf 13 = .ok (.aaload, 1) := by decide +kernel
theorem dX7_stockOf_14 : decode cX7_stockOf 14 = .ok (.getfield 126, 3) := by decide +kernel
theorem dX7_stockOf_17 : decode cX7_stockOf 17 = .ok (.iload_n 2, 1) := by decide +kernel
theorem dX7_stockOf_18 : decode cX7_stockOf 18 = .ok (.iaload, 1) := by decide +kernel
theorem dX7_stockOf_19 : decode cX7_stockOf 19 = .ok (.ireturn, 1) := by decide +kernel
theorem dX7_maySell_0 : decode cX7_maySell 0 = .ok (.aload_n 0, 1) := by decide +kernel
theorem dX7_maySell_1 : decode cX7_maySell 1 = .ok (.iload_n 1, 1) := by decide +kernel
theorem dX7_maySell_2 : decode cX7_maySell 2 = .ok (.invokevirtual 133, 3) := by decide +kernel
theorem dX7_maySell_5 : decode cX7_maySell 5 = .ok (.istore_n 3, 1) := by decide +kernel
theorem dX7_maySell_6 : decode cX7_maySell 6 = .ok (.aload_n 0, 1) := by decide +kernel
theorem dX7_maySell_7 : decode cX7_maySell 7 = .ok (.getfield 17, 3) := by decide +kernel
theorem dX7_maySell_10 : decode cX7_maySell 10 = .ok (.iload_n 1, 1) := by decide +kernel
theorem dX7_maySell_11 : decode cX7_maySell 11 = .ok (.aaload, 1) := by decide +kernel
theorem dX7_maySell_12 : decode cX7_maySell 12 = .ok (.getfield 126, 3) := by decide +kernel
theorem dX7_maySell_15 : decode cX7_maySell 15 = .ok (.iload_n 2, 1) := by decide +kernel
theorem dX7_maySell_16 : decode cX7_maySell 16 = .ok (.iaload, 1) := by decide +kernel
theorem dX7_maySell_17 : decode cX7_maySell 17 = .ok (.ifCond .eq 12, 3) := by decide +kernel
theorem dX7_maySell_20 : decode cX7_maySell 20 = .ok (.aload_n 0, 1) := by decide +kernel
theorem dX7_maySell_21 : decode cX7_maySell 21 = .ok (.iload_n 3, 1) := by decide +kernel
theorem dX7_maySell_22 : decode cX7_maySell 22 = .ok (.iload_n 2, 1) := by decide +kernel
theorem dX7_maySell_23 : decode cX7_maySell 23 = .ok (.invokevirtual 136, 3) := by decide +kernel
theorem dX7_maySell_26 : decode cX7_maySell 26 = .ok (.ifCond .le 5, 3) := by decide +kernel
theorem dX7_maySell_29 : decode cX7_maySell 29 = .ok (.iconst 0, 1) := by decide +kernel
theorem dX7_maySell_30 : decode cX7_maySell 30 = .ok (.ireturn, 1) := by decide +kernel
theorem dX7_maySell_31 : decode cX7_maySell 31 = .ok (.iload_n 3, 1) := by decide +kernel
theorem dX7_maySell_32 : decode cX7_maySell 32 = .ok (.ifCond .ge 5, 3) := by decide +kernel
theorem dX7_maySell_35 : decode cX7_maySell 35 = .ok (.iconst 1, 1) := by decide +kernel
theorem dX7_maySell_36 : decode cX7_maySell 36 = .ok (.ireturn, 1) := by decide +kernel
theorem dX7_maySell_37 : decode cX7_maySell 37 = .ok (.aload_n 0, 1) := by decide +kernel
theorem dX7_maySell_38 : decode cX7_maySell 38 = .ok (.getfield 55, 3) := by decide +kernel
theorem dX7_maySell_41 : decode cX7_maySell 41 = .ok (.iconst 1, 1) := by decide +kernel
theorem dX7_maySell_42 : decode cX7_maySell 42 = .ok (.if_icmp .ne 22, 3) := by decide +kernel
theorem dX7_maySell_45 : decode cX7_maySell 45 = .ok (.aload_n 0, 1) := by decide +kernel
theorem dX7_maySell_46 : decode cX7_maySell 46 = .ok (.aload_n 0, 1) := by decide +kernel
theorem dX7_maySell_47 : decode cX7_maySell 47 = .ok (.iload_n 3, 1) := by decide +kernel
theorem dX7_maySell_48 : decode cX7_maySell 48 = .ok (.invokevirtual 133, 3) := by decide +kernel
theorem dX7_maySell_51 : decode cX7_maySell 51 = .ok (.iload_n 2, 1) := by decide +kernel
theorem dX7_maySell_52 : decode cX7_maySell 52 = .ok (.invokevirtual 136, 3) := by decide +kernel
theorem dX7_maySell_55 : decode cX7_maySell 55 = .ok (.ifCond .ne 7, 3) := by decide +kernel
theorem dX7_maySell_58 : decode cX7_maySell 58 = .ok (.iconst 1, 1) := by decide +kernel
theorem dX7_maySell_59 : decode cX7_maySell 59 = .ok (.goto 4, 3) := by decide +kernel
theorem dX7_maySell_62 : decode cX7_maySell 62 = .ok (.iconst 0, 1) := by decide +kernel
theorem dX7_maySell_63 : decode cX7_maySell 63 = .ok (.ireturn, 1) := by decide +kernel
theorem dX7_maySell_64 : decode cX7_maySell 64 = .ok (.aload_n 0, 1) := by decide +kernel
theorem dX7_maySell_65 : decode cX7_maySell 65 = .ok (.getfield 55, 3) := by decide +kernel
theorem dX7_maySell_68 : decode cX7_maySell 68 = .ok (.iconst 2, 1) := by decide +kernel
theorem dX7_maySell_69 : decode cX7_maySell 69 = .ok (.if_icmp .ne 19, 3) := by decide +kernel
theorem dX7_maySell_72 : decode cX7_maySell 72 = .ok (.aload_n 0, 1) := by decide +kernel
theorem dX7_maySell_73 : decode cX7_maySell 73 = .ok (.getfield 17, 3) := by decide +kernel
theorem dX7_maySell_76 : decode cX7_maySell 76 = .ok (.iload_n 3, 1) := by decide +kernel
theorem dX7_maySell_77 : decode cX7_maySell 77 = .ok (.aaload, 1) := by decide +kernel
theorem dX7_maySell_78 : decode cX7_maySell 78 = .ok (.getfield 140, 3) := by decide +kernel
theorem dX7_maySell_81 : decode cX7_maySell 81 = .ok (.iload_n 2, 1) := by decide +kernel
theorem dX7_maySell_82 : decode cX7_maySell 82 = .ok (.ishr, 1) := by decide +kernel
theorem dX7_maySell_83 : decode cX7_maySell 83 = .ok (.iconst 1, 1) := by decide +kernel
theorem dX7_maySell_84 : decode cX7_maySell 84 = .ok (.iand, 1) := by decide +kernel
theorem dX7_maySell_85 : decode cX7_maySell 85 = .ok (.ifCond .ne 7, 3) := by decide +kernel
theorem dX7_maySell_88 : decode cX7_maySell 88 = .ok (.iconst 1, 1) := by decide +kernel
theorem dX7_maySell_89 : decode cX7_maySell 89 = .ok (.goto 4, 3) := by decide +kernel
theorem dX7_maySell_92 : decode cX7_maySell 92 = .ok (.iconst 0, 1) := by decide +kernel
theorem dX7_maySell_93 : decode cX7_maySell 93 = .ok (.ireturn, 1) := by decide +kernel
theorem dX7_mayGoods_0 : decode cX7_mayGoods 0 = .ok (.iconst 0, 1) := by decide +kernel
theorem dX7_mayGoods_1 : decode cX7_mayGoods 1 = .ok (.istore_n 2, 1) := by decide +kernel
theorem dX7_mayGoods_2 : decode cX7_mayGoods 2 = .ok (.iconst 0, 1) := by decide +kernel
theorem dX7_mayGoods_3 : decode cX7_mayGoods 3 = .ok (.istore_n 3, 1) := by decide +kernel
theorem dX7_mayGoods_4 : decode cX7_mayGoods 4 = .ok (.iload_n 3, 1) := by decide +kernel
theorem dX7_mayGoods_5 : decode cX7_mayGoods 5 = .ok (.bipush 6, 2) := by decide +kernel
theorem dX7_mayGoods_7 : decode cX7_mayGoods 7 = .ok (.if_icmp .ge 24, 3) := by decide +kernel
theorem dX7_mayGoods_10 : decode cX7_mayGoods 10 = .ok (.aload_n 0, 1) := by decide +kernel
theorem dX7_mayGoods_11 : decode cX7_mayGoods 11 = .ok (.iload_n 1, 1) := by decide +kernel
theorem dX7_mayGoods_12 : decode cX7_mayGoods 12 = .ok (.iload_n 3, 1) := by decide +kernel
theorem dX7_mayGoods_13 : decode cX7_mayGoods 13 = .ok (.invokevirtual 143, 3) := by decide +kernel
theorem dX7_mayGoods_16 : decode cX7_mayGoods 16 = .ok (.ifCond .eq 9, 3) := by decide +kernel
theorem dX7_mayGoods_19 : decode cX7_mayGoods 19 = .ok (.iload_n 2, 1) := by decide +kernel
theorem dX7_mayGoods_20 : decode cX7_mayGoods 20 = .ok (.iconst 1, 1) := by decide +kernel
theorem dX7_mayGoods_21 : decode cX7_mayGoods 21 = .ok (.iload_n 3, 1) := by decide +kernel
theorem dX7_mayGoods_22 : decode cX7_mayGoods 22 = .ok (.ishl, 1) := by decide +kernel
theorem dX7_mayGoods_23 : decode cX7_mayGoods 23 = .ok (.ior, 1) := by decide +kernel
theorem dX7_mayGoods_24 : decode cX7_mayGoods 24 = .ok (.istore_n 2, 1) := by decide +kernel
theorem dX7_mayGoods_25 : decode cX7_mayGoods 25 = .ok (.iinc 3 1, 3) := by decide +kernel
theorem dX7_mayGoods_28 : decode cX7_mayGoods 28 = .ok (.goto (-24), 3) := by decide +kernel
theorem dX7_mayGoods_31 : decode cX7_mayGoods 31 = .ok (.iload_n 2, 1) := by decide +kernel
theorem dX7_mayGoods_32 : decode cX7_mayGoods 32 = .ok (.ireturn, 1) := by decide +kernel
theorem dX7_fillOf_0 : decode cX7_fillOf 0 = .ok (.aload_n 0, 1) := by decide +kernel
theorem dX7_fillOf_1 : decode cX7_fillOf 1 = .ok (.getfield 17, 3) := by decide +kernel
theorem dX7_fillOf_4 : decode cX7_fillOf 4 = .ok (.iload_n 1, 1) := by decide +kernel
theorem dX7_fillOf_5 : decode cX7_fillOf 5 = .ok (.aaload, 1) := by decide +kernel
theorem dX7_fillOf_6 : decode cX7_fillOf 6 = .ok (.astore_n 3, 1) := by decide +kernel
theorem dX7_fillOf_7 : decode cX7_fillOf 7 = .ok (.aload_n 3, 1) := by decide +kernel
theorem dX7_fillOf_8 : decode cX7_fillOf 8 = .ok (.getfield 123, 3) := by decide +kernel
theorem dX7_fillOf_11 : decode cX7_fillOf 11 = .ok (.iload_n 2, 1) := by decide +kernel
theorem dX7_fillOf_12 : decode cX7_fillOf 12 = .ok (.iaload, 1) := by decide +kernel
theorem dX7_fillOf_13 : decode cX7_fillOf 13 = .ok (.istore 4, 2) := by decide +kernel
theorem dX7_fillOf_15 : decode cX7_fillOf 15 = .ok (.aload_n 0, 1) := by decide +kernel
theorem dX7_fillOf_16 : decode cX7_fillOf 16 = .ok (.aload_n 0, 1) := by decide +kernel
theorem dX7_fillOf_17 : decode cX7_fillOf 17 = .ok (.iload_n 1, 1) := by decide +kernel
theorem dX7_fillOf_18 : decode cX7_fillOf 18 = .ok (.invokevirtual 133, 3) := by decide +kernel
theorem dX7_fillOf_21 : decode cX7_fillOf 21 = .ok (.iload_n 2, 1) := by decide +kernel
theorem dX7_fillOf_22 : decode cX7_fillOf 22 = .ok (.invokevirtual 136, 3) := by decide +kernel
theorem dX7_fillOf_25 : decode cX7_fillOf 25 = .ok (.istore 5, 2) := by decide +kernel
theorem dX7_fillOf_27 : decode cX7_fillOf 27 = .ok (.iload 5, 2) := by decide +kernel
theorem dX7_fillOf_29 : decode cX7_fillOf 29 = .ok (.ifCond .le 7, 3) := by decide +kernel
theorem dX7_fillOf_32 : decode cX7_fillOf 32 = .ok (.iconst 0, 1) := by decide +kernel
theorem dX7_fillOf_33 : decode cX7_fillOf 33 = .ok (.goto 5, 3) := by decide +kernel
theorem dX7_fillOf_36 : decode cX7_fillOf 36 = .ok (.iload 4, 2) := by decide +kernel
theorem dX7_fillOf_38 : decode cX7_fillOf 38 = .ok (.istore 6, 2) := by decide +kernel
theorem dX7_fillOf_40 : decode cX7_fillOf 40 = .ok (.aload_n 3, 1) := by decide +kernel
theorem dX7_fillOf_41 : decode cX7_fillOf 41 = .ok (.getfield 114, 3) := by decide +kernel
theorem dX7_fillOf_44 : decode cX7_fillOf 44 = .ok (.tableswitch 112 1 6 #[40, 43, 48, 55, 43, 72], 40) := by decide +kernel
theorem dX7_fillOf_84 : decode cX7_fillOf 84 = .ok (.iload 6, 2) := by decide +kernel
theorem dX7_fillOf_86 : decode cX7_fillOf 86 = .ok (.ireturn, 1) := by decide +kernel
theorem dX7_fillOf_87 : decode cX7_fillOf 87 = .ok (.iload 4, 2) := by decide +kernel
theorem dX7_fillOf_89 : decode cX7_fillOf 89 = .ok (.iconst 2, 1) := by decide +kernel
theorem dX7_fillOf_90 : decode cX7_fillOf 90 = .ok (.idiv, 1) := by decide +kernel
theorem dX7_fillOf_91 : decode cX7_fillOf 91 = .ok (.ireturn, 1) := by decide +kernel
theorem dX7_fillOf_92 : decode cX7_fillOf 92 = .ok (.iconst 1, 1) := by decide +kernel
theorem dX7_fillOf_93 : decode cX7_fillOf 93 = .ok (.iload 4, 2) := by decide +kernel
theorem dX7_fillOf_95 : decode cX7_fillOf 95 = .ok (.invokestatic 147, 3) := by decide +kernel
theorem dX7_fillOf_98 : decode cX7_fillOf 98 = .ok (.ireturn, 1) := by decide +kernel
theorem dX7_fillOf_99 : decode cX7_fillOf 99 = .ok (.iload 6, 2) := by decide +kernel
theorem dX7_fillOf_101 : decode cX7_fillOf 101 = .ok (.ifCond .ne 7, 3) := by decide +kernel
theorem dX7_fillOf_104 : decode cX7_fillOf 104 = .ok (.iconst 0, 1) := by decide +kernel
theorem dX7_fillOf_105 : decode cX7_fillOf 105 = .ok (.goto 10, 3) := by decide +kernel
theorem dX7_fillOf_108 : decode cX7_fillOf 108 = .ok (.iload 6, 2) := by decide +kernel
theorem dX7_fillOf_110 : decode cX7_fillOf 110 = .ok (.aload_n 3, 1) := by decide +kernel
theorem dX7_fillOf_111 : decode cX7_fillOf 111 = .ok (.getfield 117, 3) := by decide +kernel
theorem dX7_fillOf_114 : decode cX7_fillOf 114 = .ok (.iadd, 1) := by decide +kernel
theorem dX7_fillOf_115 : decode cX7_fillOf 115 = .ok (.ireturn, 1) := by decide +kernel
theorem dX7_fillOf_116 : decode cX7_fillOf 116 = .ok (.aload_n 0, 1) := by decide +kernel
theorem dX7_fillOf_117 : decode cX7_fillOf 117 = .ok (.getfield 33, 3) := by decide +kernel
theorem dX7_fillOf_120 : decode cX7_fillOf 120 = .ok (.iconst 0, 1) := by decide +kernel
theorem dX7_fillOf_121 : decode cX7_fillOf 121 = .ok (.aaload, 1) := by decide +kernel
theorem dX7_fillOf_122 : decode cX7_fillOf 122 = .ok (.invokevirtual 152, 3) := by decide +kernel
theorem dX7_fillOf_125 : decode cX7_fillOf 125 = .ok (.ifCond .ne 6, 3) := by decide +kernel
theorem dX7_fillOf_128 : decode cX7_fillOf 128 = .ok (.iload 4, 2) := by decide +kernel
theorem dX7_fillOf_130 : decode cX7_fillOf 130 = .ok (.ireturn, 1) := by decide +kernel
theorem dX7_fillOf_131 : decode cX7_fillOf 131 = .ok (.aload_n 0, 1) := by decide +kernel
theorem dX7_fillOf_132 : decode cX7_fillOf 132 = .ok (.getfield 33, 3) := by decide +kernel
theorem dX7_fillOf_135 : decode cX7_fillOf 135 = .ok (.iconst 0, 1) := by decide +kernel
theorem dX7_fillOf_136 : decode cX7_fillOf 136 = .ok (.aaload, 1) := by decide +kernel
theorem dX7_fillOf_137 : decode cX7_fillOf 137 = .ok (.iload 4, 2) := by decide +kernel
theorem dX7_fillOf_139 : decode cX7_fillOf 139 = .ok (.iload 5, 2) := by decide +kernel
theorem dX7_fillOf_141 : decode cX7_fillOf 141 = .ok (.iload_n 2, 1) := by decide +kernel
theorem dX7_fillOf_142 : decode cX7_fillOf 142 = .ok (.aload_n 3, 1) := by decide +kernel
theorem dX7_fillOf_143 : decode cX7_fillOf 143 = .ok (.getfield 117, 3) := by decide +kernel
theorem dX7_fillOf_146 : decode cX7_fillOf 146 = .ok (.invokevirtual 156, 3) := by decide +kernel
theorem dX7_fillOf_149 : decode cX7_fillOf 149 = .ok (.iconst 0, 1) := by decide +kernel
theorem dX7_fillOf_150 : decode cX7_fillOf 150 = .ok (.bipush 99, 2) := by decide +kernel
theorem dX7_fillOf_152 : decode cX7_fillOf 152 = .ok (.invokestatic 160, 3) := by decide +kernel
theorem dX7_fillOf_155 : decode cX7_fillOf 155 = .ok (.ireturn, 1) := by decide +kernel
theorem dX7_fillOf_156 : decode cX7_fillOf 156 = .ok (.iload 4, 2) := by decide +kernel
theorem dX7_fillOf_158 : decode cX7_fillOf 158 = .ok (.ireturn, 1) := by decide +kernel
theorem dX7_priceOf_0 : decode cX7_priceOf 0 = .ok (.aload_n 0, 1) := by decide +kernel
theorem dX7_priceOf_1 : decode cX7_priceOf 1 = .ok (.getfield 17, 3) := by decide +kernel
theorem dX7_priceOf_4 : decode cX7_priceOf 4 = .ok (.iload_n 1, 1) := by decide +kernel
theorem dX7_priceOf_5 : decode cX7_priceOf 5 = .ok (.aaload, 1) := by decide +kernel
theorem dX7_priceOf_6 : decode cX7_priceOf 6 = .ok (.astore_n 3, 1) := by decide +kernel
theorem dX7_priceOf_7 : decode cX7_priceOf 7 = .ok (.aload_n 0, 1) := by decide +kernel
theorem dX7_priceOf_8 : decode cX7_priceOf 8 = .ok (.getfield 9, 3) := by decide +kernel
theorem dX7_priceOf_11 : decode cX7_priceOf 11 = .ok (.iload_n 2, 1) := by decide +kernel
theorem dX7_priceOf_12 : decode cX7_priceOf 12 = .ok (.iaload, 1) := by decide +kernel
theorem dX7_priceOf_13 : decode cX7_priceOf 13 = .ok (.istore 4, 2) := by decide +kernel
theorem dX7_priceOf_15 : decode cX7_priceOf 15 = .ok (.aload_n 3, 1) := by decide +kernel
theorem dX7_priceOf_16 : decode cX7_priceOf 16 = .ok (.getfield 114, 3) := by decide +kernel
theorem dX7_priceOf_19 : decode cX7_priceOf 19 = .ok (.tableswitch 98 2 6 #[33, 43, 43, 33, 48], 33) := by decide +kernel
theorem dX7_priceOf_52 : decode cX7_priceOf 52 = .ok (.iconst 2, 1) := by decide +kernel
theorem dX7_priceOf_53 : decode cX7_priceOf 53 = .ok (.iload 4, 2) := by decide +kernel
theorem dX7_priceOf_55 : decode cX7_priceOf 55 = .ok (.imul, 1) := by decide +kernel
theorem dX7_priceOf_56 : decode cX7_priceOf 56 = .ok (.aload_n 3, 1) := by decide +kernel
theorem dX7_priceOf_57 : decode cX7_priceOf 57 = .ok (.getfield 117, 3) := by decide +kernel
theorem dX7_priceOf_60 : decode cX7_priceOf 60 = .ok (.iadd, 1) := by decide +kernel
theorem dX7_priceOf_61 : decode cX7_priceOf 61 = .ok (.ireturn, 1) := by decide +kernel
theorem dX7_priceOf_62 : decode cX7_priceOf 62 = .ok (.iconst 3, 1) := by decide +kernel
theorem dX7_priceOf_63 : decode cX7_priceOf 63 = .ok (.iload 4, 2) := by decide +kernel
theorem dX7_priceOf_65 : decode cX7_priceOf 65 = .ok (.imul, 1) := by decide +kernel
theorem dX7_priceOf_66 : decode cX7_priceOf 66 = .ok (.ireturn, 1) := by decide +kernel
theorem dX7_priceOf_67 : decode cX7_priceOf 67 = .ok (.aload_n 0, 1) := by decide +kernel
theorem dX7_priceOf_68 : decode cX7_priceOf 68 = .ok (.getfield 33, 3) := by decide +kernel
theorem dX7_priceOf_71 : decode cX7_priceOf 71 = .ok (.iconst 1, 1) := by decide +kernel
theorem dX7_priceOf_72 : decode cX7_priceOf 72 = .ok (.aaload, 1) := by decide +kernel
theorem dX7_priceOf_73 : decode cX7_priceOf 73 = .ok (.invokevirtual 152, 3) := by decide +kernel
theorem dX7_priceOf_76 : decode cX7_priceOf 76 = .ok (.ifCond .ne 8, 3) := by decide +kernel
theorem dX7_priceOf_79 : decode cX7_priceOf 79 = .ok (.iconst 2, 1) := by decide +kernel
theorem dX7_priceOf_80 : decode cX7_priceOf 80 = .ok (.iload 4, 2) := by decide +kernel
theorem dX7_priceOf_82 : decode cX7_priceOf 82 = .ok (.imul, 1) := by decide +kernel
theorem dX7_priceOf_83 : decode cX7_priceOf 83 = .ok (.ireturn, 1) := by decide +kernel
theorem dX7_priceOf_84 : decode cX7_priceOf 84 = .ok (.aload_n 0, 1) := by decide +kernel
theorem dX7_priceOf_85 : decode cX7_priceOf 85 = .ok (.getfield 33, 3) := by decide +kernel
theorem dX7_priceOf_88 : decode cX7_priceOf 88 = .ok (.iconst 1, 1) := by decide +kernel
theorem dX7_priceOf_89 : decode cX7_priceOf 89 = .ok (.aaload, 1) := by decide +kernel
theorem dX7_priceOf_90 : decode cX7_priceOf 90 = .ok (.iload 4, 2) := by decide +kernel
theorem dX7_priceOf_92 : decode cX7_priceOf 92 = .ok (.aload_n 3, 1) := by decide +kernel
theorem dX7_priceOf_93 : decode cX7_priceOf 93 = .ok (.getfield 126, 3) := by decide +kernel
theorem dX7_priceOf_96 : decode cX7_priceOf 96 = .ok (.iload_n 2, 1) := by decide +kernel
theorem dX7_priceOf_97 : decode cX7_priceOf 97 = .ok (.iaload, 1) := by decide +kernel
theorem dX7_priceOf_98 : decode cX7_priceOf 98 = .ok (.aload_n 0, 1) := by decide +kernel
theorem dX7_priceOf_99 : decode cX7_priceOf 99 = .ok (.getfield 58, 3) := by decide +kernel
theorem dX7_priceOf_102 : decode cX7_priceOf 102 = .ok (.aload_n 3, 1) := by decide +kernel
theorem dX7_priceOf_103 : decode cX7_priceOf 103 = .ok (.getfield 117, 3) := by decide +kernel
theorem dX7_priceOf_106 : decode cX7_priceOf 106 = .ok (.invokevirtual 156, 3) := by decide +kernel
theorem dX7_priceOf_109 : decode cX7_priceOf 109 = .ok (.iconst 0, 1) := by decide +kernel
theorem dX7_priceOf_110 : decode cX7_priceOf 110 = .ok (.sipush 999, 3) := by decide +kernel
theorem dX7_priceOf_113 : decode cX7_priceOf 113 = .ok (.invokestatic 160, 3) := by decide +kernel
theorem dX7_priceOf_116 : decode cX7_priceOf 116 = .ok (.ireturn, 1) := by decide +kernel
theorem dX7_priceOf_117 : decode cX7_priceOf 117 = .ok (.iconst 2, 1) := by decide +kernel
theorem dX7_priceOf_118 : decode cX7_priceOf 118 = .ok (.iload 4, 2) := by decide +kernel
theorem dX7_priceOf_120 : decode cX7_priceOf 120 = .ok (.imul, 1) := by decide +kernel
theorem dX7_priceOf_121 : decode cX7_priceOf 121 = .ok (.ireturn, 1) := by decide +kernel
theorem dX7_passMorning_0 : decode cX7_passMorning 0 = .ok (.iconst 0, 1) := by decide +kernel
theorem dX7_passMorning_1 : decode cX7_passMorning 1 = .ok (.istore_n 1, 1) := by decide +kernel
theorem dX7_passMorning_2 : decode cX7_passMorning 2 = .ok (.iload_n 1, 1) := by decide +kernel
theorem dX7_passMorning_3 : decode cX7_passMorning 3 = .ok (.aload_n 0, 1) := by decide +kernel
theorem dX7_passMorning_4 : decode cX7_passMorning 4 = .ok (.getfield 64, 3) := by decide +kernel
theorem dX7_passMorning_7 : decode cX7_passMorning 7 = .ok (.if_icmp .ge 14, 3) := by decide +kernel
theorem dX7_passMorning_10 : decode cX7_passMorning 10 = .ok (.aload_n 0, 1) := by decide +kernel
theorem dX7_passMorning_11 : decode cX7_passMorning 11 = .ok (.iload_n 1, 1) := by decide +kernel
theorem dX7_passMorning_12 : decode cX7_passMorning 12 = .ok (.invokevirtual 164, 3) := by decide +kernel
theorem dX7_passMorning_15 : decode cX7_passMorning 15 = .ok (.iinc 1 1, 3) := by decide +kernel
theorem dX7_passMorning_18 : decode cX7_passMorning 18 = .ok (.goto (-16), 3) := by decide +kernel
theorem dX7_passMorning_21 : decode cX7_passMorning 21 = .ok (.iconst 0, 1) := by decide +kernel
theorem dX7_passMorning_22 : decode cX7_passMorning 22 = .ok (.istore_n 1, 1) := by decide +kernel
theorem dX7_passMorning_23 : decode cX7_passMorning 23 = .ok (.iload_n 1, 1) := by decide +kernel
theorem dX7_passMorning_24 : decode cX7_passMorning 24 = .ok (.aload_n 0, 1) := by decide +kernel
theorem dX7_passMorning_25 : decode cX7_passMorning 25 = .ok (.getfield 64, 3) := by decide +kernel
theorem dX7_passMorning_28 : decode cX7_passMorning 28 = .ok (.if_icmp .ge 30, 3) := by decide +kernel
theorem dX7_passMorning_31 : decode cX7_passMorning 31 = .ok (.aload_n 0, 1) := by decide +kernel
theorem dX7_passMorning_32 : decode cX7_passMorning 32 = .ok (.iload_n 1, 1) := by decide +kernel
theorem dX7_passMorning_33 : decode cX7_passMorning 33 = .ok (.invokevirtual 168, 3) := by decide +kernel
theorem dX7_passMorning_36 : decode cX7_passMorning 36 = .ok (.istore_n 2, 1) := by decide +kernel
theorem dX7_passMorning_37 : decode cX7_passMorning 37 = .ok (.iload_n 2, 1) := by decide +kernel
theorem dX7_passMorning_38 : decode cX7_passMorning 38 = .ok (.ifCond .lt 14, 3) := by decide +kernel
theorem dX7_passMorning_41 : decode cX7_passMorning 41 = .ok (.aload_n 0, 1) := by decide +kernel
theorem dX7_passMorning_42 : decode cX7_passMorning 42 = .ok (.iload_n 1, 1) := by decide +kernel
theorem dX7_passMorning_43 : decode cX7_passMorning 43 = .ok (.aload_n 0, 1) := by decide +kernel
theorem dX7_passMorning_44 : decode cX7_passMorning 44 = .ok (.iload_n 1, 1) := by decide +kernel
theorem dX7_passMorning_45 : decode cX7_passMorning 45 = .ok (.invokevirtual 133, 3) := by decide +kernel
theorem dX7_passMorning_48 : decode cX7_passMorning 48 = .ok (.iload_n 2, 1) := by decide +kernel
theorem dX7_passMorning_49 : decode cX7_passMorning 49 = .ok (.invokevirtual 171, 3) := by decide +kernel
theorem dX7_passMorning_52 : decode cX7_passMorning 52 = .ok (.iinc 1 1, 3) := by decide +kernel
theorem dX7_passMorning_55 : decode cX7_passMorning 55 = .ok (.goto (-32), 3) := by decide +kernel
theorem dX7_passMorning_58 : decode cX7_passMorning 58 = .ok (.iconst 0, 1) := by decide +kernel
theorem dX7_passMorning_59 : decode cX7_passMorning 59 = .ok (.istore_n 1, 1) := by decide +kernel
theorem dX7_passMorning_60 : decode cX7_passMorning 60 = .ok (.iload_n 1, 1) := by decide +kernel
theorem dX7_passMorning_61 : decode cX7_passMorning 61 = .ok (.aload_n 0, 1) := by decide +kernel
theorem dX7_passMorning_62 : decode cX7_passMorning 62 = .ok (.getfield 64, 3) := by decide +kernel
theorem dX7_passMorning_65 : decode cX7_passMorning 65 = .ok (.if_icmp .ge 27, 3) := by decide +kernel
theorem dX7_passMorning_68 : decode cX7_passMorning 68 = .ok (.aload_n 0, 1) := by decide +kernel
theorem dX7_passMorning_69 : decode cX7_passMorning 69 = .ok (.getfield 17, 3) := by decide +kernel
theorem dX7_passMorning_72 : decode cX7_passMorning 72 = .ok (.iload_n 1, 1) := by decide +kernel
theorem dX7_passMorning_73 : decode cX7_passMorning 73 = .ok (.aaload, 1) := by decide +kernel
theorem dX7_passMorning_74 : decode cX7_passMorning 74 = .ok (.aload_n 0, 1) := by decide +kernel
theorem dX7_passMorning_75 : decode cX7_passMorning 75 = .ok (.getfield 17, 3) := by decide +kernel
theorem dX7_passMorning_78 : decode cX7_passMorning 78 = .ok (.iload_n 1, 1) := by decide +kernel
theorem dX7_passMorning_79 : decode cX7_passMorning 79 = .ok (.aaload, 1) := by decide +kernel
theorem dX7_passMorning_80 : decode cX7_passMorning 80 = .ok (.invokevirtual 175, 3) := by decide +kernel
theorem dX7_passMorning_83 : decode cX7_passMorning 83 = .ok (.putfield 140, 3) := by decide +kernel
theorem dX7_passMorning_86 : decode cX7_passMorning 86 = .ok (.iinc 1 1, 3) := by decide +kernel
theorem dX7_passMorning_89 : decode cX7_passMorning 89 = .ok (.goto (-29), 3) := by decide +kernel
theorem dX7_passMorning_92 : decode cX7_passMorning 92 = .ok (.return_, 1) := by decide +kernel
theorem dX7_fillShop_0 : decode cX7_fillShop 0 = .ok (.aload_n 0, 1) := by decide +kernel
theorem dX7_fillShop_1 : decode cX7_fillShop 1 = .ok (.getfield 17, 3) := by decide +kernel
theorem dX7_fillShop_4 : decode cX7_fillShop 4 = .ok (.iload_n 1, 1) := by decide +kernel
theorem dX7_fillShop_5 : decode cX7_fillShop 5 = .ok (.aaload, 1) := by decide +kernel
theorem dX7_fillShop_6 : decode cX7_fillShop 6 = .ok (.astore_n 2, 1) := by decide +kernel
theorem dX7_fillShop_7 : decode cX7_fillShop 7 = .ok (.iconst 0, 1) := by decide +kernel
theorem dX7_fillShop_8 : decode cX7_fillShop 8 = .ok (.istore_n 3, 1) := by decide +kernel
theorem dX7_fillShop_9 : decode cX7_fillShop 9 = .ok (.iload_n 3, 1) := by decide +kernel
theorem dX7_fillShop_10 : decode cX7_fillShop 10 = .ok (.bipush 6, 2) := by decide +kernel
theorem dX7_fillShop_12 : decode cX7_fillShop 12 = .ok (.if_icmp .ge 50, 3) := by decide +kernel
theorem dX7_fillShop_15 : decode cX7_fillShop 15 = .ok (.aload_n 0, 1) := by decide +kernel
theorem dX7_fillShop_16 : decode cX7_fillShop 16 = .ok (.iload_n 1, 1) := by decide +kernel
theorem dX7_fillShop_17 : decode cX7_fillShop 17 = .ok (.iload_n 3, 1) := by decide +kernel
theorem dX7_fillShop_18 : decode cX7_fillShop 18 = .ok (.invokevirtual 179, 3) := by decide +kernel
theorem dX7_fillShop_21 : decode cX7_fillShop 21 = .ok (.istore 4, 2) := by decide +kernel
theorem dX7_fillShop_23 : decode cX7_fillShop 23 = .ok (.aload_n 2, 1) := by decide +kernel
theorem dX7_fillShop_24 : decode cX7_fillShop 24 = .ok (.aload_n 0, 1) := by decide +kernel
theorem dX7_fillShop_25 : decode cX7_fillShop 25 = .ok (.getfield 9, 3) := by decide +kernel
theorem dX7_fillShop_28 : decode cX7_fillShop 28 = .ok (.iload_n 3, 1) := by decide +kernel
theorem dX7_fillShop_29 : decode cX7_fillShop 29 = .ok (.iaload, 1) := by decide +kernel
theorem dX7_fillShop_30 : decode cX7_fillShop 30 = .ok (.ineg, 1) := by decide +kernel
theorem dX7_fillShop_31 : decode cX7_fillShop 31 = .ok (.iconst 0, 1) := by decide +kernel
theorem dX7_fillShop_32 : decode cX7_fillShop 32 = .ok (.iload 4, 2) := by decide +kernel
theorem dX7_fillShop_34 : decode cX7_fillShop 34 = .ok (.aload_n 2, 1) := by decide +kernel
theorem dX7_fillShop_35 : decode cX7_fillShop 35 = .ok (.getfield 126, 3) := by decide +kernel
theorem dX7_fillShop_38 : decode cX7_fillShop 38 = .ok (.iload_n 3, 1) := by decide +kernel
theorem dX7_fillShop_39 : decode cX7_fillShop 39 = .ok (.iaload, 1) := by decide +kernel
theorem dX7_fillShop_40 : decode cX7_fillShop 40 = .ok (.isub, 1) := by decide +kernel
theorem dX7_fillShop_41 : decode cX7_fillShop 41 = .ok (.invokestatic 182, 3) := by decide +kernel
theorem dX7_fillShop_44 : decode cX7_fillShop 44 = .ok (.imul, 1) := by decide +kernel
theorem dX7_fillShop_45 : decode cX7_fillShop 45 = .ok (.invokevirtual 185, 3) := by decide +kernel
theorem dX7_fillShop_48 : decode cX7_fillShop 48 = .ok (.aload_n 2, 1) := by decide +kernel
theorem dX7_fillShop_49 : decode cX7_fillShop 49 = .ok (.getfield 126, 3) := by decide +kernel
theorem dX7_fillShop_52 : decode cX7_fillShop 52 = .ok (.iload_n 3, 1) := by decide +kernel
theorem dX7_fillShop_53 : decode cX7_fillShop 53 = .ok (.iload 4, 2) := by decide +kernel
theorem dX7_fillShop_55 : decode cX7_fillShop 55 = .ok (.iastore, 1) := by decide +kernel
theorem dX7_fillShop_56 : decode cX7_fillShop 56 = .ok (.iinc 3 1, 3) := by decide +kernel
theorem dX7_fillShop_59 : decode cX7_fillShop 59 = .ok (.goto (-50), 3) := by decide +kernel
theorem dX7_fillShop_62 : decode cX7_fillShop 62 = .ok (.return_, 1) := by decide +kernel
theorem dX7_goodToBuy_0 : decode cX7_goodToBuy 0 = .ok (.aload_n 0, 1) := by decide +kernel
theorem dX7_goodToBuy_1 : decode cX7_goodToBuy 1 = .ok (.getfield 17, 3) := by decide +kernel
theorem dX7_goodToBuy_4 : decode cX7_goodToBuy 4 = .ok (.iload_n 1, 1) := by decide +kernel
theorem dX7_goodToBuy_5 : decode cX7_goodToBuy 5 = .ok (.aaload, 1) := by decide +kernel
theorem dX7_goodToBuy_6 : decode cX7_goodToBuy 6 = .ok (.astore_n 2, 1) := by decide +kernel
theorem dX7_goodToBuy_7 : decode cX7_goodToBuy 7 = .ok (.aload_n 0, 1) := by decide +kernel
theorem dX7_goodToBuy_8 : decode cX7_goodToBuy 8 = .ok (.iload_n 1, 1) := by decide +kernel
theorem dX7_goodToBuy_9 : decode cX7_goodToBuy 9 = .ok (.invokevirtual 133, 3) := by decide +kernel
theorem dX7_goodToBuy_12 : decode cX7_goodToBuy 12 = .ok (.istore_n 3, 1) := by decide +kernel
theorem dX7_goodToBuy_13 : decode cX7_goodToBuy 13 = .ok (.aload_n 2, 1) := by decide +kernel
theorem dX7_goodToBuy_14 : decode cX7_goodToBuy 14 = .ok (.getfield 114, 3) := by decide +kernel
theorem dX7_goodToBuy_17 : decode cX7_goodToBuy 17 = .ok (.iconst 5, 1) := by decide +kernel
theorem dX7_goodToBuy_18 : decode cX7_goodToBuy 18 = .ok (.if_icmp .ne 12, 3) := by decide +kernel
theorem dX7_goodToBuy_21 : decode cX7_goodToBuy 21 = .ok (.iload_n 3, 1) := by decide +kernel
theorem dX7_goodToBuy_22 : decode cX7_goodToBuy 22 = .ok (.ifCond .lt 8, 3) := by decide +kernel
theorem dX7_goodToBuy_25 : decode cX7_goodToBuy 25 = .ok (.iload_n 3, 1) := by decide +kernel
theorem dX7_goodToBuy_26 : decode cX7_goodToBuy 26 = .ok (.iload_n 1, 1) := by decide +kernel
theorem dX7_goodToBuy_27 : decode cX7_goodToBuy 27 = .ok (.if_icmp .ne 5, 3) := by decide +kernel
theorem dX7_goodToBuy_30 : decode cX7_goodToBuy 30 = .ok (.iconst (-1), 1) := by decide +kernel
theorem dX7_goodToBuy_31 : decode cX7_goodToBuy 31 = .ok (.ireturn, 1) := by decide +kernel
theorem dX7_goodToBuy_32 : decode cX7_goodToBuy 32 = .ok (.iconst 0, 1) := by decide +kernel
theorem dX7_goodToBuy_33 : decode cX7_goodToBuy 33 = .ok (.istore 4, 2) := by decide +kernel
theorem dX7_goodToBuy_35 : decode cX7_goodToBuy 35 = .ok (.iload 4, 2) := by decide +kernel
theorem dX7_goodToBuy_37 : decode cX7_goodToBuy 37 = .ok (.bipush 6, 2) := by decide +kernel
theorem dX7_goodToBuy_39 : decode cX7_goodToBuy 39 = .ok (.if_icmp .ge 45, 3) := by decide +kernel
theorem dX7_goodToBuy_42 : decode cX7_goodToBuy 42 = .ok (.aload_n 2, 1) := by decide +kernel
theorem dX7_goodToBuy_43 : decode cX7_goodToBuy 43 = .ok (.getfield 126, 3) := by decide +kernel
theorem dX7_goodToBuy_46 : decode cX7_goodToBuy 46 = .ok (.iload 4, 2) := by decide +kernel
theorem dX7_goodToBuy_48 : decode cX7_goodToBuy 48 = .ok (.iaload, 1) := by decide +kernel
theorem dX7_goodToBuy_49 : decode cX7_goodToBuy 49 = .ok (.ifCond .le 29, 3) := by decide +kernel
theorem dX7_goodToBuy_52 : decode cX7_goodToBuy 52 = .ok (.aload_n 0, 1) := by decide +kernel
theorem dX7_goodToBuy_53 : decode cX7_goodToBuy 53 = .ok (.getfield 17, 3) := by decide +kernel
theorem dX7_goodToBuy_56 : decode cX7_goodToBuy 56 = .ok (.iload_n 3, 1) := by decide +kernel
theorem dX7_goodToBuy_57 : decode cX7_goodToBuy 57 = .ok (.aaload, 1) := by decide +kernel
theorem dX7_goodToBuy_58 : decode cX7_goodToBuy 58 = .ok (.getfield 126, 3) := by decide +kernel
theorem dX7_goodToBuy_61 : decode cX7_goodToBuy 61 = .ok (.iload 4, 2) := by decide +kernel
theorem dX7_goodToBuy_63 : decode cX7_goodToBuy 63 = .ok (.iaload, 1) := by decide +kernel
theorem dX7_goodToBuy_64 : decode cX7_goodToBuy 64 = .ok (.iconst 1, 1) := by decide +kernel
theorem dX7_goodToBuy_65 : decode cX7_goodToBuy 65 = .ok (.aload_n 2, 1) := by decide +kernel
theorem dX7_goodToBuy_66 : decode cX7_goodToBuy 66 = .ok (.getfield 117, 3) := by decide +kernel
theorem dX7_goodToBuy_69 : decode cX7_goodToBuy 69 = .ok (.invokestatic 98, 3) := by decide +kernel
theorem dX7_goodToBuy_72 : decode cX7_goodToBuy 72 = .ok (.ifCond .eq 6, 3) := by decide +kernel
theorem dX7_goodToBuy_75 : decode cX7_goodToBuy 75 = .ok (.iload 4, 2) := by decide +kernel
theorem dX7_goodToBuy_77 : decode cX7_goodToBuy 77 = .ok (.ireturn, 1) := by decide +kernel
theorem dX7_goodToBuy_78 : decode cX7_goodToBuy 78 = .ok (.iinc 4 1, 3) := by decide +kernel
theorem dX7_goodToBuy_81 : decode cX7_goodToBuy 81 = .ok (.goto (-46), 3) := by decide +kernel
theorem dX7_goodToBuy_84 : decode cX7_goodToBuy 84 = .ok (.iconst (-1), 1) := by decide +kernel
theorem dX7_goodToBuy_85 : decode cX7_goodToBuy 85 = .ok (.ireturn, 1) := by decide +kernel
theorem dX7_buyOut_0 : decode cX7_buyOut 0 = .ok (.aload_n 0, 1) := by decide +kernel
theorem dX7_buyOut_1 : decode cX7_buyOut 1 = .ok (.getfield 17, 3) := by decide +kernel
theorem dX7_buyOut_4 : decode cX7_buyOut 4 = .ok (.iload_n 2, 1) := by decide +kernel
theorem dX7_buyOut_5 : decode cX7_buyOut 5 = .ok (.aaload, 1) := by decide +kernel
theorem dX7_buyOut_6 : decode cX7_buyOut 6 = .ok (.getfield 126, 3) := by decide +kernel
theorem dX7_buyOut_9 : decode cX7_buyOut 9 = .ok (.iload_n 3, 1) := by decide +kernel
theorem dX7_buyOut_10 : decode cX7_buyOut 10 = .ok (.iaload, 1) := by decide +kernel
theorem dX7_buyOut_11 : decode cX7_buyOut 11 = .ok (.istore 4, 2) := by decide +kernel
theorem dX7_buyOut_13 : decode cX7_buyOut 13 = .ok (.iload 4, 2) := by decide +kernel
theorem dX7_buyOut_15 : decode cX7_buyOut 15 = .ok (.aload_n 0, 1) := by decide +kernel
theorem dX7_buyOut_16 : decode cX7_buyOut 16 = .ok (.iload_n 2, 1) := by decide +kernel
theorem dX7_buyOut_17 : decode cX7_buyOut 17 = .ok (.iload_n 3, 1) := by decide +kernel
theorem dX7_buyOut_18 : decode cX7_buyOut 18 = .ok (.invokevirtual 188, 3) := by decide +kernel
theorem dX7_buyOut_21 : decode cX7_buyOut 21 = .ok (.imul, 1) := by decide +kernel
theorem dX7_buyOut_22 : decode cX7_buyOut 22 = .ok (.istore 5, 2) := by decide +kernel
theorem dX7_buyOut_24 : decode cX7_buyOut 24 = .ok (.aload_n 0, 1) := by decide +kernel
theorem dX7_buyOut_25 : decode cX7_buyOut 25 = .ok (.getfield 17, 3) := by decide +kernel
theorem dX7_buyOut_28 : decode cX7_buyOut 28 = .ok (.iload_n 1, 1) := by decide +kernel
theorem dX7_buyOut_29 : decode cX7_buyOut 29 = .ok (.aaload, 1) := by decide +kernel
theorem dX7_buyOut_30 : decode cX7_buyOut 30 = .ok (.iload 5, 2) := by decide +kernel
theorem dX7_buyOut_32 : decode cX7_buyOut 32 = .ok (.ineg, 1) := by decide +kernel
theorem dX7_buyOut_33 : decode cX7_buyOut 33 = .ok (.invokevirtual 185, 3) := by decide +kernel
theorem dX7_buyOut_36 : decode cX7_buyOut 36 = .ok (.aload_n 0, 1) := by decide +kernel
theorem dX7_buyOut_37 : decode cX7_buyOut 37 = .ok (.getfield 17, 3) := by decide +kernel
theorem dX7_buyOut_40 : decode cX7_buyOut 40 = .ok (.iload_n 2, 1) := by decide +kernel
theorem dX7_buyOut_41 : decode cX7_buyOut 41 = .ok (.aaload, 1) := by decide +kernel
theorem dX7_buyOut_42 : decode cX7_buyOut 42 = .ok (.iload 5, 2) := by decide +kernel
theorem dX7_buyOut_44 : decode cX7_buyOut 44 = .ok (.invokevirtual 185, 3) := by decide +kernel
theorem dX7_buyOut_47 : decode cX7_buyOut 47 = .ok (.aload_n 0, 1) := by decide +kernel
theorem dX7_buyOut_48 : decode cX7_buyOut 48 = .ok (.getfield 17, 3) := by decide +kernel
theorem dX7_buyOut_51 : decode cX7_buyOut 51 = .ok (.iload_n 2, 1) := by decide +kernel
theorem dX7_buyOut_52 : decode cX7_buyOut 52 = .ok (.aaload, 1) := by decide +kernel
theorem dX7_buyOut_53 : decode cX7_buyOut 53 = .ok (.getfield 126, 3) := by decide +kernel
theorem dX7_buyOut_56 : decode cX7_buyOut 56 = .ok (.iload_n 3, 1) := by decide +kernel
theorem dX7_buyOut_57 : decode cX7_buyOut 57 = .ok (.iconst 0, 1) := by decide +kernel
theorem dX7_buyOut_58 : decode cX7_buyOut 58 = .ok (.iastore, 1) := by decide +kernel
theorem dX7_buyOut_59 : decode cX7_buyOut 59 = .ok (.aload_n 0, 1) := by decide +kernel
theorem dX7_buyOut_60 : decode cX7_buyOut 60 = .ok (.getfield 17, 3) := by decide +kernel
theorem dX7_buyOut_63 : decode cX7_buyOut 63 = .ok (.iload_n 1, 1) := by decide +kernel
theorem dX7_buyOut_64 : decode cX7_buyOut 64 = .ok (.aaload, 1) := by decide +kernel
theorem dX7_buyOut_65 : decode cX7_buyOut 65 = .ok (.getfield 126, 3) := by decide +kernel
theorem dX7_buyOut_68 : decode cX7_buyOut 68 = .ok (.iload_n 3, 1) := by decide +kernel
theorem dX7_buyOut_69 : decode cX7_buyOut 69 = .ok (.bipush 99, 2) := by decide +kernel
theorem dX7_buyOut_71 : decode cX7_buyOut 71 = .ok (.aload_n 0, 1) := by decide +kernel
theorem dX7_buyOut_72 : decode cX7_buyOut 72 = .ok (.getfield 17, 3) := by decide +kernel
theorem dX7_buyOut_75 : decode cX7_buyOut 75 = .ok (.iload_n 1, 1) := by decide +kernel
theorem dX7_buyOut_76 : decode cX7_buyOut 76 = .ok (.aaload, 1) := by decide +kernel
theorem dX7_buyOut_77 : decode cX7_buyOut 77 = .ok (.getfield 126, 3) := by decide +kernel
theorem dX7_buyOut_80 : decode cX7_buyOut 80 = .ok (.iload_n 3, 1) := by decide +kernel
theorem dX7_buyOut_81 : decode cX7_buyOut 81 = .ok (.iaload, 1) := by decide +kernel
theorem dX7_buyOut_82 : decode cX7_buyOut 82 = .ok (.iload 4, 2) := by decide +kernel
theorem dX7_buyOut_84 : decode cX7_buyOut 84 = .ok (.iadd, 1) := by decide +kernel
theorem dX7_buyOut_85 : decode cX7_buyOut 85 = .ok (.invokestatic 147, 3) := by decide +kernel
theorem dX7_buyOut_88 : decode cX7_buyOut 88 = .ok (.iastore, 1) := by decide +kernel
theorem dX7_buyOut_89 : decode cX7_buyOut 89 = .ok (.return_, 1) := by decide +kernel
theorem dX7_placeOf_0 : decode cX7_placeOf 0 = .ok (.aload_n 0, 1) := by decide +kernel
theorem dX7_placeOf_1 : decode cX7_placeOf 1 = .ok (.getfield 64, 3) := by decide +kernel
theorem dX7_placeOf_4 : decode cX7_placeOf 4 = .ok (.ifCond .ne 7, 3) := by decide +kernel
theorem dX7_placeOf_7 : decode cX7_placeOf 7 = .ok (.iconst 0, 1) := by decide +kernel
theorem dX7_placeOf_8 : decode cX7_placeOf 8 = .ok (.goto 9, 3) := by decide +kernel
theorem dX7_placeOf_11 : decode cX7_placeOf 11 = .ok (.iload_n 2, 1) := by decide +kernel
theorem dX7_placeOf_12 : decode cX7_placeOf 12 = .ok (.aload_n 0, 1) := by decide +kernel
theorem dX7_placeOf_13 : decode cX7_placeOf 13 = .ok (.getfield 64, 3) := by decide +kernel
theorem dX7_placeOf_16 : decode cX7_placeOf 16 = .ok (.irem, 1) := by decide +kernel
theorem dX7_placeOf_17 : decode cX7_placeOf 17 = .ok (.istore_n 3, 1) := by decide +kernel
theorem dX7_placeOf_18 : decode cX7_placeOf 18 = .ok (.iload_n 1, 1) := by decide +kernel
theorem dX7_placeOf_19 : decode cX7_placeOf 19 = .ok (.ifCond .ne 7, 3) := by decide +kernel
theorem dX7_placeOf_22 : decode cX7_placeOf 22 = .ok (.iload_n 3, 1) := by decide +kernel
theorem dX7_placeOf_23 : decode cX7_placeOf 23 = .ok (.goto 11, 3) := by decide +kernel
theorem dX7_placeOf_26 : decode cX7_placeOf 26 = .ok (.aload_n 0, 1) := by decide +kernel
theorem dX7_placeOf_27 : decode cX7_placeOf 27 = .ok (.getfield 64, 3) := by decide +kernel
theorem dX7_placeOf_30 : decode cX7_placeOf 30 = .ok (.iconst 1, 1) := by decide +kernel
theorem dX7_placeOf_31 : decode cX7_placeOf 31 = .ok (.isub, 1) := by decide +kernel
theorem dX7_placeOf_32 : decode cX7_placeOf 32 = .ok (.iload_n 3, 1) := by decide +kernel
theorem dX7_placeOf_33 : decode cX7_placeOf 33 = .ok (.isub, 1) := by decide +kernel
theorem dX7_placeOf_34 : decode cX7_placeOf 34 = .ok (.ireturn, 1) := by decide +kernel
theorem dX7_goAlong_0 : decode cX7_goAlong 0 = .ok (.aload_n 0, 1) := by decide +kernel
theorem dX7_goAlong_1 : decode cX7_goAlong 1 = .ok (.getfield 23, 3) := by decide +kernel
theorem dX7_goAlong_4 : decode cX7_goAlong 4 = .ok (.iload_n 1, 1) := by decide +kernel
theorem dX7_goAlong_5 : decode cX7_goAlong 5 = .ok (.aaload, 1) := by decide +kernel
theorem dX7_goAlong_6 : decode cX7_goAlong 6 = .ok (.astore_n 2, 1) := by decide +kernel
theorem dX7_goAlong_7 : decode cX7_goAlong 7 = .ok (.aload_n 0, 1) := by decide +kernel
theorem dX7_goAlong_8 : decode cX7_goAlong 8 = .ok (.getfield 52, 3) := by decide +kernel
theorem dX7_goAlong_11 : decode cX7_goAlong 11 = .ok (.iconst 1, 1) := by decide +kernel
theorem dX7_goAlong_12 : decode cX7_goAlong 12 = .ok (.if_icmp .ne 17, 3) := by decide +kernel
theorem dX7_goAlong_15 : decode cX7_goAlong 15 = .ok (.aload_n 0, 1) := by decide +kernel
theorem dX7_goAlong_16 : decode cX7_goAlong 16 = .ok (.getfield 64, 3) := by decide +kernel
theorem dX7_goAlong_19 : decode cX7_goAlong 19 = .ok (.ifCond .le 10, 3) := by decide +kernel
theorem dX7_goAlong_22 : decode cX7_goAlong 22 = .ok (.aload_n 2, 1) := by decide +kernel
theorem dX7_goAlong_23 : decode cX7_goAlong 23 = .ok (.getfield 105, 3) := by decide +kernel
theorem dX7_goAlong_26 : decode cX7_goAlong 26 = .ok (.goto 14, 3) := by decide +kernel
theorem dX7_goAlong_29 : decode cX7_goAlong 29 = .ok (.aload_n 2, 1) := by decide +kernel
theorem dX7_goAlong_30 : decode cX7_goAlong 30 = .ok (.getfield 105, 3) := by decide +kernel
theorem dX7_goAlong_33 : decode cX7_goAlong 33 = .ok (.aload_n 0, 1) := by decide +kernel
theorem dX7_goAlong_34 : decode cX7_goAlong 34 = .ok (.getfield 64, 3) := by decide +kernel
theorem dX7_goAlong_37 : decode cX7_goAlong 37 = .ok (.invokestatic 147, 3) := by decide +kernel
theorem dX7_goAlong_40 : decode cX7_goAlong 40 = .ok (.istore_n 3, 1) := by decide +kernel
theorem dX7_goAlong_41 : decode cX7_goAlong 41 = .ok (.aload_n 2, 1) := by decide +kernel
theorem dX7_goAlong_42 : decode cX7_goAlong 42 = .ok (.getfield 111, 3) := by decide +kernel
theorem dX7_goAlong_45 : decode cX7_goAlong 45 = .ok (.istore 4, 2) := by decide +kernel
theorem dX7_goAlong_47 : decode cX7_goAlong 47 = .ok (.iconst 0, 1) := by decide +kernel
theorem dX7_goAlong_48 : decode cX7_goAlong 48 = .ok (.istore 5, 2) := by decide +kernel
theorem dX7_goAlong_50 : decode cX7_goAlong 50 = .ok (.iconst 0, 1) := by decide +kernel
theorem dX7_goAlong_51 : decode cX7_goAlong 51 = .ok (.istore 6, 2) := by decide +kernel
theorem dX7_goAlong_53 : decode cX7_goAlong 53 = .ok (.iload 6, 2) := by decide +kernel
theorem dX7_goAlong_55 : decode cX7_goAlong 55 = .ok (.iload_n 3, 1) := by decide +kernel
theorem dX7_goAlong_56 : decode cX7_goAlong 56 = .ok (.if_icmp .ge 136, 3) := by decide +kernel
theorem dX7_goAlong_59 : decode cX7_goAlong 59 = .ok (.iload 5, 2) := by decide +kernel
theorem dX7_goAlong_61 : decode cX7_goAlong 61 = .ok (.aload_n 2, 1) := by decide +kernel
theorem dX7_goAlong_62 : decode cX7_goAlong 62 = .ok (.getfield 102, 3) := by decide +kernel
theorem dX7_goAlong_65 : decode cX7_goAlong 65 = .ok (.if_icmp .eq 127, 3) := by decide +kernel
theorem dX7_goAlong_68 : decode cX7_goAlong 68 = .ok (.aload_n 0, 1) := by decide +kernel
theorem dX7_goAlong_69 : decode cX7_goAlong 69 = .ok (.aload_n 2, 1) := by decide +kernel
theorem dX7_goAlong_70 : decode cX7_goAlong 70 = .ok (.getfield 108, 3) := by decide +kernel
theorem dX7_goAlong_73 : decode cX7_goAlong 73 = .ok (.iload 6, 2) := by decide +kernel
theorem dX7_goAlong_75 : decode cX7_goAlong 75 = .ok (.invokevirtual 191, 3) := by decide +kernel
theorem dX7_goAlong_78 : decode cX7_goAlong 78 = .ok (.istore 7, 2) := by decide +kernel
theorem dX7_goAlong_80 : decode cX7_goAlong 80 = .ok (.iconst 0, 1) := by decide +kernel
theorem dX7_goAlong_81 : decode cX7_goAlong 81 = .ok (.istore 8, 2) := by decide +kernel
theorem dX7_goAlong_83 : decode cX7_goAlong 83 = .ok (.iload 8, 2) := by decide +kernel
theorem dX7_goAlong_85 : decode cX7_goAlong 85 = .ok (.bipush 6, 2) := by decide +kernel
theorem dX7_goAlong_87 : decode cX7_goAlong 87 = .ok (.if_icmp .ge 99, 3) := by decide +kernel
theorem dX7_goAlong_90 : decode cX7_goAlong 90 = .ok (.aload_n 2, 1) := by decide +kernel
theorem dX7_goAlong_91 : decode cX7_goAlong 91 = .ok (.getfield 102, 3) := by decide +kernel
theorem dX7_goAlong_94 : decode cX7_goAlong 94 = .ok (.iload 5, 2) := by decide +kernel
theorem dX7_goAlong_96 : decode cX7_goAlong 96 = .ok (.iconst (-1), 1) := by decide +kernel
theorem dX7_goAlong_97 : decode cX7_goAlong 97 = .ok (.ixor, 1) := by decide +kernel
theorem dX7_goAlong_98 : decode cX7_goAlong 98 = .ok (.iand, 1) := by decide +kernel
theorem dX7_goAlong_99 : decode cX7_goAlong 99 = .ok (.iconst 1, 1) := by decide +kernel
theorem dX7_goAlong_100 : decode cX7_goAlong 100 = .ok (.iload 8, 2) := by decide +kernel
theorem dX7_goAlong_102 : decode cX7_goAlong 102 = .ok (.ishl, 1) := by decide +kernel
theorem dX7_goAlong_103 : decode cX7_goAlong 103 = .ok (.iand, 1) := by decide +kernel
theorem dX7_goAlong_104 : decode cX7_goAlong 104 = .ok (.ifCond .eq 76, 3) := by decide +kernel
theorem dX7_goAlong_107 : decode cX7_goAlong 107 = .ok (.aload_n 0, 1) := by decide +kernel
theorem dX7_goAlong_108 : decode cX7_goAlong 108 = .ok (.iload 7, 2) := by decide +kernel
theorem dX7_goAlong_110 : decode cX7_goAlong 110 = .ok (.iload 8, 2) := by decide +kernel
theorem dX7_goAlong_112 : decode cX7_goAlong 112 = .ok (.invokevirtual 143, 3) := by decide +kernel
theorem dX7_goAlong_115 : decode cX7_goAlong 115 = .ok (.ifCond .eq 65, 3) := by decide +kernel
theorem dX7_goAlong_118 : decode cX7_goAlong 118 = .ok (.aload_n 0, 1) := by decide +kernel
theorem dX7_goAlong_119 : decode cX7_goAlong 119 = .ok (.iload 7, 2) := by decide +kernel
theorem dX7_goAlong_121 : decode cX7_goAlong 121 = .ok (.iload 8, 2) := by decide +kernel
theorem dX7_goAlong_123 : decode cX7_goAlong 123 = .ok (.invokevirtual 188, 3) := by decide +kernel
theorem dX7_goAlong_126 : decode cX7_goAlong 126 = .ok (.istore 9, 2) := by decide +kernel
theorem dX7_goAlong_128 : decode cX7_goAlong 128 = .ok (.iload 9, 2) := by decide +kernel
theorem dX7_goAlong_130 : decode cX7_goAlong 130 = .ok (.iload 4, 2) := by decide +kernel
theorem dX7_goAlong_132 : decode cX7_goAlong 132 = .ok (.if_icmp .gt 48, 3) := by decide +kernel
theorem dX7_goAlong_135 : decode cX7_goAlong 135 = .ok (.aload_n 0, 1) := by decide +kernel
theorem dX7_goAlong_136 : decode cX7_goAlong 136 = .ok (.getfield 17, 3) := by decide +kernel
theorem dX7_goAlong_139 : decode cX7_goAlong 139 = .ok (.iload 7, 2) := by decide +kernel
theorem dX7_goAlong_141 : decode cX7_goAlong 141 = .ok (.aaload, 1) := by decide +kernel
theorem dX7_goAlong_142 : decode cX7_goAlong 142 = .ok (.getfield 126, 3) := by decide +kernel
theorem dX7_goAlong_145 : decode cX7_goAlong 145 = .ok (.iload 8, 2) := by decide +kernel
theorem dX7_goAlong_147 : decode cX7_goAlong 147 = .ok (.dup2, 1) := by decide +kernel
theorem dX7_goAlong_148 : decode cX7_goAlong 148 = .ok (.iaload, 1) := by decide +kernel
theorem dX7_goAlong_149 : decode cX7_goAlong 149 = .ok (.iconst 1, 1) := by decide +kernel
theorem dX7_goAlong_150 : decode cX7_goAlong 150 = .ok (.isub, 1) := by decide +kernel
theorem dX7_goAlong_151 : decode cX7_goAlong 151 = .ok (.iastore, 1) := by decide +kernel
theorem dX7_goAlong_152 : decode cX7_goAlong 152 = .ok (.aload_n 0, 1) := by decide +kernel
theorem dX7_goAlong_153 : decode cX7_goAlong 153 = .ok (.getfield 17, 3) := by decide +kernel
theorem dX7_goAlong_156 : decode cX7_goAlong 156 = .ok (.iload 7, 2) := by decide +kernel
theorem dX7_goAlong_158 : decode cX7_goAlong 158 = .ok (.aaload, 1) := by decide +kernel
theorem dX7_goAlong_159 : decode cX7_goAlong 159 = .ok (.iload 9, 2) := by decide +kernel
theorem dX7_goAlong_161 : decode cX7_goAlong 161 = .ok (.invokevirtual 185, 3) := by decide +kernel
theorem dX7_goAlong_164 : decode cX7_goAlong 164 = .ok (.iload 4, 2) := by decide +kernel
theorem dX7_goAlong_166 : decode cX7_goAlong 166 = .ok (.iload 9, 2) := by decide +kernel
theorem dX7_goAlong_168 : decode cX7_goAlong 168 = .ok (.isub, 1) := by decide +kernel
theorem dX7_goAlong_169 : decode cX7_goAlong 169 = .ok (.istore 4, 2) := by decide +kernel
theorem dX7_goAlong_171 : decode cX7_goAlong 171 = .ok (.iload 5, 2) := by decide +kernel
theorem dX7_goAlong_173 : decode cX7_goAlong 173 = .ok (.iconst 1, 1) := by decide +kernel
theorem dX7_goAlong_174 : decode cX7_goAlong 174 = .ok (.iload 8, 2) := by decide +kernel
theorem dX7_goAlong_176 : decode cX7_goAlong 176 = .ok (.ishl, 1) := by decide +kernel
theorem dX7_goAlong_177 : decode cX7_goAlong 177 = .ok (.ior, 1) := by decide +kernel
theorem dX7_goAlong_178 : decode cX7_goAlong 178 = .ok (.istore 5, 2) := by decide +kernel
theorem dX7_goAlong_180 : decode cX7_goAlong 180 = .ok (.iinc 8 1, 3) := by decide +kernel
theorem dX7_goAlong_183 : decode cX7_goAlong 183 = .ok (.goto (-100), 3) := by decide +kernel
theorem dX7_goAlong_186 : decode cX7_goAlong 186 = .ok (.iinc 6 1, 3) := by decide +kernel
theorem dX7_goAlong_189 : decode cX7_goAlong 189 = .ok (.goto (-136), 3) := by decide +kernel
theorem dX7_goAlong_192 : decode cX7_goAlong 192 = .ok (.iload 5, 2) := by decide +kernel
theorem dX7_goAlong_194 : decode cX7_goAlong 194 = .ok (.ireturn, 1) := by decide +kernel
theorem dX7_allGoAlong_0 : decode cX7_allGoAlong 0 = .ok (.iconst 0, 1) := by decide +kernel
theorem dX7_allGoAlong_1 : decode cX7_allGoAlong 1 = .ok (.istore_n 1, 1) := by decide +kernel
theorem dX7_allGoAlong_2 : decode cX7_allGoAlong 2 = .ok (.iload_n 1, 1) := by decide +kernel
theorem dX7_allGoAlong_3 : decode cX7_allGoAlong 3 = .ok (.aload_n 0, 1) := by decide +kernel
theorem dX7_allGoAlong_4 : decode cX7_allGoAlong 4 = .ok (.getfield 71, 3) := by decide +kernel
theorem dX7_allGoAlong_7 : decode cX7_allGoAlong 7 = .ok (.if_icmp .ge 15, 3) := by decide +kernel
theorem dX7_allGoAlong_10 : decode cX7_allGoAlong 10 = .ok (.aload_n 0, 1) := by decide +kernel
theorem dX7_allGoAlong_11 : decode cX7_allGoAlong 11 = .ok (.iload_n 1, 1) := by decide +kernel
theorem dX7_allGoAlong_12 : decode cX7_allGoAlong 12 = .ok (.invokevirtual 194, 3) := by decide +kernel
theorem dX7_allGoAlong_15 : decode cX7_allGoAlong 15 = .ok (.pop, 1) := by decide +kernel
theorem dX7_allGoAlong_16 : decode cX7_allGoAlong 16 = .ok (.iinc 1 1, 3) := by decide +kernel
theorem dX7_allGoAlong_19 : decode cX7_allGoAlong 19 = .ok (.goto (-17), 3) := by decide +kernel
theorem dX7_allGoAlong_22 : decode cX7_allGoAlong 22 = .ok (.return_, 1) := by decide +kernel
theorem dX7_pass_0 : decode cX7_pass 0 = .ok (.iconst 0, 1) := by decide +kernel
theorem dX7_pass_1 : decode cX7_pass 1 = .ok (.istore_n 3, 1) := by decide +kernel
theorem dX7_pass_2 : decode cX7_pass 2 = .ok (.iload_n 3, 1) := by decide +kernel
theorem dX7_pass_3 : decode cX7_pass 3 = .ok (.iload_n 1, 1) := by decide +kernel
theorem dX7_pass_4 : decode cX7_pass 4 = .ok (.if_icmp .ge 77, 3) := by decide +kernel
theorem dX7_pass_7 : decode cX7_pass 7 = .ok (.aload_n 0, 1) := by decide +kernel
theorem dX7_pass_8 : decode cX7_pass 8 = .ok (.invokevirtual 197, 3) := by decide +kernel
theorem dX7_pass_11 : decode cX7_pass 11 = .ok (.aload_n 0, 1) := by decide +kernel
theorem dX7_pass_12 : decode cX7_pass 12 = .ok (.iconst 0, 1) := by decide +kernel
theorem dX7_pass_13 : decode cX7_pass 13 = .ok (.putfield 61, 3) := by decide +kernel
theorem dX7_pass_16 : decode cX7_pass 16 = .ok (.iconst 0, 1) := by decide +kernel
theorem dX7_pass_17 : decode cX7_pass 17 = .ok (.istore 4, 2) := by decide +kernel
theorem dX7_pass_19 : decode cX7_pass 19 = .ok (.iload 4, 2) := by decide +kernel
theorem dX7_pass_21 : decode cX7_pass 21 = .ok (.aload_n 0, 1) := by decide +kernel
theorem dX7_pass_22 : decode cX7_pass 22 = .ok (.getfield 71, 3) := by decide +kernel
theorem dX7_pass_25 : decode cX7_pass 25 = .ok (.if_icmp .ge 40, 3) := by decide +kernel
theorem dX7_pass_28 : decode cX7_pass 28 = .ok (.iload_n 2, 1) := by decide +kernel
theorem dX7_pass_29 : decode cX7_pass 29 = .ok (.ifCond .eq 12, 3) := by decide +kernel
theorem dX7_pass_32 : decode cX7_pass 32 = .ok (.aload_n 0, 1) := by decide +kernel
theorem dX7_pass_33 : decode cX7_pass 33 = .ok (.invokevirtual 200, 3) := by decide +kernel
theorem dX7_pass_36 : decode cX7_pass 36 = .ok (.iconst 4, 1) := by decide +kernel
theorem dX7_pass_37 : decode cX7_pass 37 = .ok (.irem, 1) := by decide +kernel
theorem dX7_pass_38 : decode cX7_pass 38 = .ok (.ifCond .eq 21, 3) := by decide +kernel
theorem dX7_pass_41 : decode cX7_pass 41 = .ok (.aload_n 0, 1) := by decide +kernel
theorem dX7_pass_42 : decode cX7_pass 42 = .ok (.dup, 1) := by decide +kernel
theorem dX7_pass_43 : decode cX7_pass 43 = .ok (.getfield 61, 3) := by decide +kernel
theorem dX7_pass_46 : decode cX7_pass 46 = .ok (.aload_n 0, 1) := by decide +kernel
theorem dX7_pass_47 : decode cX7_pass 47 = .ok (.iload 4, 2) := by decide +kernel
theorem dX7_pass_49 : decode cX7_pass 49 = .ok (.invokevirtual 194, 3) := by decide +kernel
theorem dX7_pass_52 : decode cX7_pass 52 = .ok (.invokestatic 203, 3) := by decide +kernel
theorem dX7_pass_55 : decode cX7_pass 55 = .ok (.iadd, 1) := by decide +kernel
theorem dX7_pass_56 : decode cX7_pass 56 = .ok (.putfield 61, 3) := by decide +kernel
theorem dX7_pass_59 : decode cX7_pass 59 = .ok (.iinc 4 1, 3) := by decide +kernel
theorem dX7_pass_62 : decode cX7_pass 62 = .ok (.goto (-43), 3) := by decide +kernel
theorem dX7_pass_65 : decode cX7_pass 65 = .ok (.aload_n 0, 1) := by decide +kernel
theorem dX7_pass_66 : decode cX7_pass 66 = .ok (.dup, 1) := by decide +kernel
theorem dX7_pass_67 : decode cX7_pass 67 = .ok (.getfield 58, 3) := by decide +kernel
theorem dX7_pass_70 : decode cX7_pass 70 = .ok (.iconst 1, 1) := by decide +kernel
theorem dX7_pass_71 : decode cX7_pass 71 = .ok (.iadd, 1) := by decide +kernel
theorem dX7_pass_72 : decode cX7_pass 72 = .ok (.putfield 58, 3) := by decide +kernel
theorem dX7_pass_75 : decode cX7_pass 75 = .ok (.iinc 3 1, 3) := by decide +kernel
theorem dX7_pass_78 : decode cX7_pass 78 = .ok (.goto (-76), 3) := by decide +kernel
theorem dX7_pass_81 : decode cX7_pass 81 = .ok (.return_, 1) := by decide +kernel
theorem dX7_draw_0 : decode cX7_draw 0 = .ok (.aload_n 0, 1) := by decide +kernel
theorem dX7_draw_1 : decode cX7_draw 1 = .ok (.aload_n 0, 1) := by decide +kernel
theorem dX7_draw_2 : decode cX7_draw 2 = .ok (.getfield 27, 3) := by decide +kernel
theorem dX7_draw_5 : decode cX7_draw 5 = .ok (.ldc 208, 2) := by decide +kernel
theorem dX7_draw_7 : decode cX7_draw 7 = .ok (.imul, 1) := by decide +kernel
theorem dX7_draw_8 : decode cX7_draw 8 = .ok (.sipush 12345, 3) := by decide +kernel
theorem dX7_draw_11 : decode cX7_draw 11 = .ok (.iadd, 1) := by decide +kernel
theorem dX7_draw_12 : decode cX7_draw 12 = .ok (.putfield 27, 3) := by decide +kernel
theorem dX7_draw_15 : decode cX7_draw 15 = .ok (.aload_n 0, 1) := by decide +kernel
theorem dX7_draw_16 : decode cX7_draw 16 = .ok (.getfield 27, 3) := by decide +kernel
theorem dX7_draw_19 : decode cX7_draw 19 = .ok (.bipush 8, 2) := by decide +kernel
theorem dX7_draw_21 : decode cX7_draw 21 = .ok (.iushr, 1) := by decide +kernel
theorem dX7_draw_22 : decode cX7_draw 22 = .ok (.ireturn, 1) := by decide +kernel
theorem dX7_turnFrom_0 : decode cX7_turnFrom 0 = .ok (.iconst 0, 1) := by decide +kernel
theorem dX7_turnFrom_1 : decode cX7_turnFrom 1 = .ok (.istore_n 3, 1) := by decide +kernel
theorem dX7_turnFrom_2 : decode cX7_turnFrom 2 = .ok (.iload_n 3, 1) := by decide +kernel
theorem dX7_turnFrom_3 : decode cX7_turnFrom 3 = .ok (.aload_n 0, 1) := by decide +kernel
theorem dX7_turnFrom_4 : decode cX7_turnFrom 4 = .ok (.getfield 64, 3) := by decide +kernel
theorem dX7_turnFrom_7 : decode cX7_turnFrom 7 = .ok (.if_icmp .ge 31, 3) := by decide +kernel
theorem dX7_turnFrom_10 : decode cX7_turnFrom 10 = .ok (.aload_n 0, 1) := by decide +kernel
theorem dX7_turnFrom_11 : decode cX7_turnFrom 11 = .ok (.getfield 17, 3) := by decide +kernel
theorem dX7_turnFrom_14 : decode cX7_turnFrom 14 = .ok (.iload_n 3, 1) := by decide +kernel
theorem dX7_turnFrom_15 : decode cX7_turnFrom 15 = .ok (.iload_n 2, 1) := by decide +kernel
theorem dX7_turnFrom_16 : decode cX7_turnFrom 16 = .ok (.iadd, 1) := by decide +kernel
theorem dX7_turnFrom_17 : decode cX7_turnFrom 17 = .ok (.aload_n 0, 1) := by decide +kernel
theorem dX7_turnFrom_18 : decode cX7_turnFrom 18 = .ok (.getfield 64, 3) := by decide +kernel
theorem dX7_turnFrom_21 : decode cX7_turnFrom 21 = .ok (.irem, 1) := by decide +kernel
theorem dX7_turnFrom_22 : decode cX7_turnFrom 22 = .ok (.aaload, 1) := by decide +kernel
theorem dX7_turnFrom_23 : decode cX7_turnFrom 23 = .ok (.aload_n 1, 1) := by decide +kernel
theorem dX7_turnFrom_24 : decode cX7_turnFrom 24 = .ok (.getfield 17, 3) := by decide +kernel
theorem dX7_turnFrom_27 : decode cX7_turnFrom 27 = .ok (.iload_n 3, 1) := by decide +kernel
theorem dX7_turnFrom_28 : decode cX7_turnFrom 28 = .ok (.aaload, 1) := by decide +kernel
theorem dX7_turnFrom_29 : decode cX7_turnFrom 29 = .ok (.invokevirtual 67, 3) := by decide +kernel
theorem dX7_turnFrom_32 : decode cX7_turnFrom 32 = .ok (.iinc 3 1, 3) := by decide +kernel
theorem dX7_turnFrom_35 : decode cX7_turnFrom 35 = .ok (.goto (-33), 3) := by decide +kernel
theorem dX7_turnFrom_38 : decode cX7_turnFrom 38 = .ok (.return_, 1) := by decide +kernel
theorem dX7_joinNext_0 : decode cX7_joinNext 0 = .ok (.aload_n 0, 1) := by decide +kernel
theorem dX7_joinNext_1 : decode cX7_joinNext 1 = .ok (.getfield 17, 3) := by decide +kernel
theorem dX7_joinNext_4 : decode cX7_joinNext 4 = .ok (.iload_n 1, 1) := by decide +kernel
theorem dX7_joinNext_5 : decode cX7_joinNext 5 = .ok (.aaload, 1) := by decide +kernel
theorem dX7_joinNext_6 : decode cX7_joinNext 6 = .ok (.aload_n 0, 1) := by decide +kernel
theorem dX7_joinNext_7 : decode cX7_joinNext 7 = .ok (.getfield 17, 3) := by decide +kernel
theorem dX7_joinNext_10 : decode cX7_joinNext 10 = .ok (.iload_n 1, 1) := by decide +kernel
theorem dX7_joinNext_11 : decode cX7_joinNext 11 = .ok (.iconst 1, 1) := by decide +kernel
theorem dX7_joinNext_12 : decode cX7_joinNext 12 = .ok (.iadd, 1) := by decide +kernel
theorem dX7_joinNext_13 : decode cX7_joinNext 13 = .ok (.aaload, 1) := by decide +kernel
theorem dX7_joinNext_14 : decode cX7_joinNext 14 = .ok (.invokevirtual 209, 3) := by decide +kernel
theorem dX7_joinNext_17 : decode cX7_joinNext 17 = .ok (.iload_n 1, 1) := by decide +kernel
theorem dX7_joinNext_18 : decode cX7_joinNext 18 = .ok (.iconst 1, 1) := by decide +kernel
theorem dX7_joinNext_19 : decode cX7_joinNext 19 = .ok (.iadd, 1) := by decide +kernel
theorem dX7_joinNext_20 : decode cX7_joinNext 20 = .ok (.istore_n 2, 1) := by decide +kernel
theorem dX7_joinNext_21 : decode cX7_joinNext 21 = .ok (.iload_n 2, 1) := by decide +kernel
theorem dX7_joinNext_22 : decode cX7_joinNext 22 = .ok (.aload_n 0, 1) := by decide +kernel
theorem dX7_joinNext_23 : decode cX7_joinNext 23 = .ok (.getfield 64, 3) := by decide +kernel
theorem dX7_joinNext_26 : decode cX7_joinNext 26 = .ok (.iconst 1, 1) := by decide +kernel
theorem dX7_joinNext_27 : decode cX7_joinNext 27 = .ok (.isub, 1) := by decide +kernel
theorem dX7_joinNext_28 : decode cX7_joinNext 28 = .ok (.if_icmp .ge 26, 3) := by decide +kernel
theorem dX7_joinNext_31 : decode cX7_joinNext 31 = .ok (.aload_n 0, 1) := by decide +kernel
theorem dX7_joinNext_32 : decode cX7_joinNext 32 = .ok (.getfield 17, 3) := by decide +kernel
theorem dX7_joinNext_35 : decode cX7_joinNext 35 = .ok (.iload_n 2, 1) := by decide +kernel
theorem dX7_joinNext_36 : decode cX7_joinNext 36 = .ok (.aaload, 1) := by decide +kernel
theorem dX7_joinNext_37 : decode cX7_joinNext 37 = .ok (.aload_n 0, 1) := by decide +kernel
theorem dX7_joinNext_38 : decode cX7_joinNext 38 = .ok (.getfield 17, 3) := by decide +kernel
theorem dX7_joinNext_41 : decode cX7_joinNext 41 = .ok (.iload_n 2, 1) := by decide +kernel
theorem dX7_joinNext_42 : decode cX7_joinNext 42 = .ok (.iconst 1, 1) := by decide +kernel
theorem dX7_joinNext_43 : decode cX7_joinNext 43 = .ok (.iadd, 1) := by decide +kernel
theorem dX7_joinNext_44 : decode cX7_joinNext 44 = .ok (.aaload, 1) := by decide +kernel
theorem dX7_joinNext_45 : decode cX7_joinNext 45 = .ok (.invokevirtual 67, 3) := by decide +kernel
theorem dX7_joinNext_48 : decode cX7_joinNext 48 = .ok (.iinc 2 1, 3) := by decide +kernel
theorem dX7_joinNext_51 : decode cX7_joinNext 51 = .ok (.goto (-30), 3) := by decide +kernel
theorem dX7_joinNext_54 : decode cX7_joinNext 54 = .ok (.aload_n 0, 1) := by decide +kernel
theorem dX7_joinNext_55 : decode cX7_joinNext 55 = .ok (.dup, 1) := by decide +kernel
theorem dX7_joinNext_56 : decode cX7_joinNext 56 = .ok (.getfield 64, 3) := by decide +kernel
theorem dX7_joinNext_59 : decode cX7_joinNext 59 = .ok (.iconst 1, 1) := by decide +kernel
theorem dX7_joinNext_60 : decode cX7_joinNext 60 = .ok (.isub, 1) := by decide +kernel
theorem dX7_joinNext_61 : decode cX7_joinNext 61 = .ok (.putfield 64, 3) := by decide +kernel
theorem dX7_joinNext_64 : decode cX7_joinNext 64 = .ok (.return_, 1) := by decide +kernel
theorem dX7_things_0 : decode cX7_things 0 = .ok (.iconst 0, 1) := by decide +kernel
theorem dX7_things_1 : decode cX7_things 1 = .ok (.istore_n 1, 1) := by decide +kernel
theorem dX7_things_2 : decode cX7_things 2 = .ok (.iconst 0, 1) := by decide +kernel
theorem dX7_things_3 : decode cX7_things 3 = .ok (.istore_n 2, 1) := by decide +kernel
theorem dX7_things_4 : decode cX7_things 4 = .ok (.iload_n 2, 1) := by decide +kernel
theorem dX7_things_5 : decode cX7_things 5 = .ok (.aload_n 0, 1) := by decide +kernel
theorem dX7_things_6 : decode cX7_things 6 = .ok (.getfield 64, 3) := by decide +kernel
theorem dX7_things_9 : decode cX7_things 9 = .ok (.if_icmp .ge 21, 3) := by decide +kernel
theorem dX7_things_12 : decode cX7_things 12 = .ok (.iload_n 1, 1) := by decide +kernel
theorem dX7_things_13 : decode cX7_things 13 = .ok (.aload_n 0, 1) := by decide +kernel
theorem dX7_things_14 : decode cX7_things 14 = .ok (.getfield 17, 3) := by decide +kernel
theorem dX7_things_17 : decode cX7_things 17 = .ok (.iload_n 2, 1) := by decide +kernel
theorem dX7_things_18 : decode cX7_things 18 = .ok (.aaload, 1) := by decide +kernel
theorem dX7_things_19 : decode cX7_things 19 = .ok (.invokevirtual 212, 3) := by decide +kernel
theorem dX7_things_22 : decode cX7_things 22 = .ok (.iadd, 1) := by decide +kernel
theorem dX7_things_23 : decode cX7_things 23 = .ok (.istore_n 1, 1) := by decide +kernel
theorem dX7_things_24 : decode cX7_things 24 = .ok (.iinc 2 1, 3) := by decide +kernel
theorem dX7_things_27 : decode cX7_things 27 = .ok (.goto (-23), 3) := by decide +kernel
theorem dX7_things_30 : decode cX7_things 30 = .ok (.iload_n 1, 1) := by decide +kernel
theorem dX7_things_31 : decode cX7_things 31 = .ok (.ireturn, 1) := by decide +kernel
theorem dX7_purses_0 : decode cX7_purses 0 = .ok (.iconst 0, 1) := by decide +kernel
theorem dX7_purses_1 : decode cX7_purses 1 = .ok (.istore_n 1, 1) := by decide +kernel
theorem dX7_purses_2 : decode cX7_purses 2 = .ok (.iconst 0, 1) := by decide +kernel
theorem dX7_purses_3 : decode cX7_purses 3 = .ok (.istore_n 2, 1) := by decide +kernel
theorem dX7_purses_4 : decode cX7_purses 4 = .ok (.iload_n 2, 1) := by decide +kernel
theorem dX7_purses_5 : decode cX7_purses 5 = .ok (.aload_n 0, 1) := by decide +kernel
theorem dX7_purses_6 : decode cX7_purses 6 = .ok (.getfield 64, 3) := by decide +kernel
theorem dX7_purses_9 : decode cX7_purses 9 = .ok (.if_icmp .ge 21, 3) := by decide +kernel
theorem dX7_purses_12 : decode cX7_purses 12 = .ok (.iload_n 1, 1) := by decide +kernel
theorem dX7_purses_13 : decode cX7_purses 13 = .ok (.aload_n 0, 1) := by decide +kernel
theorem dX7_purses_14 : decode cX7_purses 14 = .ok (.getfield 17, 3) := by decide +kernel
theorem dX7_purses_17 : decode cX7_purses 17 = .ok (.iload_n 2, 1) := by decide +kernel
theorem dX7_purses_18 : decode cX7_purses 18 = .ok (.aaload, 1) := by decide +kernel
theorem dX7_purses_19 : decode cX7_purses 19 = .ok (.getfield 120, 3) := by decide +kernel
theorem dX7_purses_22 : decode cX7_purses 22 = .ok (.iadd, 1) := by decide +kernel
theorem dX7_purses_23 : decode cX7_purses 23 = .ok (.istore_n 1, 1) := by decide +kernel
theorem dX7_purses_24 : decode cX7_purses 24 = .ok (.iinc 2 1, 3) := by decide +kernel
theorem dX7_purses_27 : decode cX7_purses 27 = .ok (.goto (-23), 3) := by decide +kernel
theorem dX7_purses_30 : decode cX7_purses 30 = .ok (.iload_n 1, 1) := by decide +kernel
theorem dX7_purses_31 : decode cX7_purses 31 = .ok (.ireturn, 1) := by decide +kernel
theorem dX8_init_0 : decode cX8_init 0 = .ok (.aload_n 0, 1) := by decide +kernel
theorem dX8_init_1 : decode cX8_init 1 = .ok (.invokespecial 1, 3) := by decide +kernel
theorem dX8_init_4 : decode cX8_init 4 = .ok (.aload_n 0, 1) := by decide +kernel
theorem dX8_init_5 : decode cX8_init 5 = .ok (.new 7, 3) := by decide +kernel
theorem dX8_init_8 : decode cX8_init 8 = .ok (.dup, 1) := by decide +kernel
theorem dX8_init_9 : decode cX8_init 9 = .ok (.invokespecial 9, 3) := by decide +kernel
theorem dX8_init_12 : decode cX8_init 12 = .ok (.putfield 10, 3) := by decide +kernel
theorem dX8_init_15 : decode cX8_init 15 = .ok (.aload_n 0, 1) := by decide +kernel
theorem dX8_init_16 : decode cX8_init 16 = .ok (.new 7, 3) := by decide +kernel
theorem dX8_init_19 : decode cX8_init 19 = .ok (.dup, 1) := by decide +kernel
theorem dX8_init_20 : decode cX8_init 20 = .ok (.invokespecial 9, 3) := by decide +kernel
theorem dX8_init_23 : decode cX8_init 23 = .ok (.putfield 16, 3) := by decide +kernel
theorem dX8_init_26 : decode cX8_init 26 = .ok (.aload_n 0, 1) := by decide +kernel
theorem dX8_init_27 : decode cX8_init 27 = .ok (.new 7, 3) := by decide +kernel
theorem dX8_init_30 : decode cX8_init 30 = .ok (.dup, 1) := by decide +kernel
theorem dX8_init_31 : decode cX8_init 31 = .ok (.invokespecial 9, 3) := by decide +kernel
theorem dX8_init_34 : decode cX8_init 34 = .ok (.putfield 19, 3) := by decide +kernel
theorem dX8_init_37 : decode cX8_init 37 = .ok (.aload_n 0, 1) := by decide +kernel
theorem dX8_init_38 : decode cX8_init 38 = .ok (.iconst 4, 1) := by decide +kernel
theorem dX8_init_39 : decode cX8_init 39 = .ok (.anewarray 22, 3) := by decide +kernel
theorem dX8_init_42 : decode cX8_init 42 = .ok (.putfield 24, 3) := by decide +kernel
theorem dX8_init_45 : decode cX8_init 45 = .ok (.aload_n 0, 1) := by decide +kernel
theorem dX8_init_46 : decode cX8_init 46 = .ok (.new 28, 3) := by decide +kernel
theorem dX8_init_49 : decode cX8_init 49 = .ok (.dup, 1) := by decide +kernel
theorem dX8_init_50 : decode cX8_init 50 = .ok (.invokespecial 30, 3) := by decide +kernel
theorem dX8_init_53 : decode cX8_init 53 = .ok (.putfield 31, 3) := by decide +kernel
theorem dX8_init_56 : decode cX8_init 56 = .ok (.aload_n 0, 1) := by decide +kernel
theorem dX8_init_57 : decode cX8_init 57 = .ok (.new 35, 3) := by decide +kernel
theorem dX8_init_60 : decode cX8_init 60 = .ok (.dup, 1) := by decide +kernel
theorem dX8_init_61 : decode cX8_init 61 = .ok (.invokespecial 37, 3) := by decide +kernel
theorem dX8_init_64 : decode cX8_init 64 = .ok (.putfield 38, 3) := by decide +kernel
theorem dX8_init_67 : decode cX8_init 67 = .ok (.aload_n 0, 1) := by decide +kernel
theorem dX8_init_68 : decode cX8_init 68 = .ok (.new 42, 3) := by decide +kernel
theorem dX8_init_71 : decode cX8_init 71 = .ok (.dup, 1) := by decide +kernel
theorem dX8_init_72 : decode cX8_init 72 = .ok (.invokespecial 44, 3) := by decide +kernel
theorem dX8_init_75 : decode cX8_init 75 = .ok (.putfield 45, 3) := by decide +kernel
theorem dX8_init_78 : decode cX8_init 78 = .ok (.aload_n 0, 1) := by decide +kernel
theorem dX8_init_79 : decode cX8_init 79 = .ok (.bipush 7, 2) := by decide +kernel
theorem dX8_init_81 : decode cX8_init 81 = .ok (.newarray .int, 2) := by decide +kernel
theorem dX8_init_83 : decode cX8_init 83 = .ok (.putfield 49, 3) := by decide +kernel
theorem dX8_init_86 : decode cX8_init 86 = .ok (.iconst 0, 1) := by decide +kernel
theorem dX8_init_87 : decode cX8_init 87 = .ok (.istore_n 1, 1) := by decide +kernel
theorem dX8_init_88 : decode cX8_init 88 = .ok (.iload_n 1, 1) := by decide +kernel
theorem dX8_init_89 : decode cX8_init 89 = .ok (.iconst 4, 1) := by decide +kernel
theorem dX8_init_90 : decode cX8_init 90 = .ok (.if_icmp .ge 22, 3) := by decide +kernel
theorem dX8_init_93 : decode cX8_init 93 = .ok (.aload_n 0, 1) := by decide +kernel
theorem dX8_init_94 : decode cX8_init 94 = .ok (.getfield 24, 3) := by decide +kernel
theorem dX8_init_97 : decode cX8_init 97 = .ok (.iload_n 1, 1) := by decide +kernel
theorem dX8_init_98 : decode cX8_init 98 = .ok (.new 22, 3) := by decide +kernel
theorem dX8_init_101 : decode cX8_init 101 = .ok (.dup, 1) := by decide +kernel
theorem dX8_init_102 : decode cX8_init 102 = .ok (.invokespecial 53, 3) := by decide +kernel
theorem dX8_init_105 : decode cX8_init 105 = .ok (.aastore, 1) := by decide +kernel
theorem dX8_init_106 : decode cX8_init 106 = .ok (.iinc 1 1, 3) := by decide +kernel
theorem dX8_init_109 : decode cX8_init 109 = .ok (.goto (-21), 3) := by decide +kernel
theorem dX8_init_112 : decode cX8_init 112 = .ok (.return_, 1) := by decide +kernel
theorem dX8_cost_0 : decode cX8_cost 0 = .ok (.iload_n 1, 1) := by decide +kernel
theorem dX8_cost_1 : decode cX8_cost 1 = .ok (.invokestatic 54, 3) := by decide +kernel
theorem dX8_cost_4 : decode cX8_cost 4 = .ok (.ifCond .eq 13, 3) := by decide +kernel
theorem dX8_cost_7 : decode cX8_cost 7 = .ok (.iload_n 2, 1) := by decide +kernel
theorem dX8_cost_8 : decode cX8_cost 8 = .ok (.iconst 0, 1) := by decide +kernel
theorem dX8_cost_9 : decode cX8_cost 9 = .ok (.bipush 99, 2) := by decide +kernel
theorem dX8_cost_11 : decode cX8_cost 11 = .ok (.invokestatic 58, 3) := by decide +kernel
theorem dX8_cost_14 : decode cX8_cost 14 = .ok (.ifCond .ne 9, 3) := by decide +kernel
theorem dX8_cost_17 : decode cX8_cost 17 = .ok (.aload_n 0, 1) := by decide +kernel
theorem dX8_cost_18 : decode cX8_cost 18 = .ok (.iconst 1, 1) := by decide +kernel
theorem dX8_cost_19 : decode cX8_cost 19 = .ok (.invokevirtual 62, 3) := by decide +kernel
theorem dX8_cost_22 : decode cX8_cost 22 = .ok (.ireturn, 1) := by decide +kernel
theorem dX8_cost_23 : decode cX8_cost 23 = .ok (.aload_n 0, 1) := by decide +kernel
theorem dX8_cost_24 : decode cX8_cost 24 = .ok (.getfield 10, 3) := by decide +kernel
theorem dX8_cost_27 : decode cX8_cost 27 = .ok (.getfield 66, 3) := by decide +kernel
theorem dX8_cost_30 : decode cX8_cost 30 = .ok (.iload_n 1, 1) := by decide +kernel
theorem dX8_cost_31 : decode cX8_cost 31 = .ok (.iaload, 1) := by decide +kernel
theorem dX8_cost_32 : decode cX8_cost 32 = .ok (.istore_n 3, 1) := by decide +kernel
theorem dX8_cost_33 : decode cX8_cost 33 = .ok (.aload_n 0, 1) := by decide +kernel
theorem dX8_cost_34 : decode cX8_cost 34 = .ok (.getfield 10, 3) := by decide +kernel
theorem dX8_cost_37 : decode cX8_cost 37 = .ok (.getfield 66, 3) := by decide +kernel
theorem dX8_cost_40 : decode cX8_cost 40 = .ok (.iload_n 1, 1) := by decide +kernel
theorem dX8_cost_41 : decode cX8_cost 41 = .ok (.iload_n 2, 1) := by decide +kernel
theorem dX8_cost_42 : decode cX8_cost 42 = .ok (.iastore, 1) := by decide +kernel
theorem dX8_cost_43 : decode cX8_cost 43 = .ok (.iload_n 3, 1) := by decide +kernel
theorem dX8_cost_44 : decode cX8_cost 44 = .ok (.ireturn, 1) := by decide +kernel
theorem dX8_rule_0 : decode cX8_rule 0 = .ok (.iload_n 1, 1) := by decide +kernel
theorem dX8_rule_1 : decode cX8_rule 1 = .ok (.ifCond .ne 30, 3) := by decide +kernel
theorem dX8_rule_4 : decode cX8_rule 4 = .ok (.iload_n 2, 1) := by decide +kernel
theorem dX8_rule_5 : decode cX8_rule 5 = .ok (.iconst 0, 1) := by decide +kernel
theorem dX8_rule_6 : decode cX8_rule 6 = .ok (.iconst 1, 1) := by decide +kernel
theorem dX8_rule_7 : decode cX8_rule 7 = .ok (.invokestatic 58, 3) := by decide +kernel
theorem dX8_rule_10 : decode cX8_rule 10 = .ok (.ifCond .eq 21, 3) := by decide +kernel
theorem dX8_rule_13 : decode cX8_rule 13 = .ok (.aload_n 0, 1) := by decide +kernel
theorem dX8_rule_14 : decode cX8_rule 14 = .ok (.getfield 10, 3) := by decide +kernel
theorem dX8_rule_17 : decode cX8_rule 17 = .ok (.getfield 69, 3) := by decide +kernel
theorem dX8_rule_20 : decode cX8_rule 20 = .ok (.istore_n 3, 1) := by decide +kernel
theorem dX8_rule_21 : decode cX8_rule 21 = .ok (.aload_n 0, 1) := by decide +kernel
theorem dX8_rule_22 : decode cX8_rule 22 = .ok (.getfield 10, 3) := by decide +kernel
theorem dX8_rule_25 : decode cX8_rule 25 = .ok (.iload_n 2, 1) := by decide +kernel
theorem dX8_rule_26 : decode cX8_rule 26 = .ok (.putfield 69, 3) := by decide +kernel
theorem dX8_rule_29 : decode cX8_rule 29 = .ok (.iload_n 3, 1) := by decide +kernel
theorem dX8_rule_30 : decode cX8_rule 30 = .ok (.ireturn, 1) := by decide +kernel
theorem dX8_rule_31 : decode cX8_rule 31 = .ok (.iload_n 1, 1) := by decide +kernel
theorem dX8_rule_32 : decode cX8_rule 32 = .ok (.iconst 1, 1) := by decide +kernel
theorem dX8_rule_33 : decode cX8_rule 33 = .ok (.if_icmp .ne 30, 3) := by decide +kernel
theorem dX8_rule_36 : decode cX8_rule 36 = .ok (.iload_n 2, 1) := by decide +kernel
theorem dX8_rule_37 : decode cX8_rule 37 = .ok (.iconst 0, 1) := by decide +kernel
theorem dX8_rule_38 : decode cX8_rule 38 = .ok (.iconst 2, 1) := by decide +kernel
theorem dX8_rule_39 : decode cX8_rule 39 = .ok (.invokestatic 58, 3) := by decide +kernel
theorem dX8_rule_42 : decode cX8_rule 42 = .ok (.ifCond .eq 21, 3) := by decide +kernel
theorem dX8_rule_45 : decode cX8_rule 45 = .ok (.aload_n 0, 1) := by decide +kernel
theorem dX8_rule_46 : decode cX8_rule 46 = .ok (.getfield 10, 3) := by decide +kernel
theorem dX8_rule_49 : decode cX8_rule 49 = .ok (.getfield 73, 3) := by decide +kernel
theorem dX8_rule_52 : decode cX8_rule 52 = .ok (.istore_n 3, 1) := by decide +kernel
theorem dX8_rule_53 : decode cX8_rule 53 = .ok (.aload_n 0, 1) := by decide +kernel
theorem dX8_rule_54 : decode cX8_rule 54 = .ok (.getfield 10, 3) := by decide +kernel
theorem dX8_rule_57 : decode cX8_rule 57 = .ok (.iload_n 2, 1) := by decide +kernel
theorem dX8_rule_58 : decode cX8_rule 58 = .ok (.putfield 73, 3) := by decide +kernel
theorem dX8_rule_61 : decode cX8_rule 61 = .ok (.iload_n 3, 1) := by decide +kernel
theorem dX8_rule_62 : decode cX8_rule 62 = .ok (.ireturn, 1) := by decide +kernel
theorem dX8_rule_63 : decode cX8_rule 63 = .ok (.aload_n 0, 1) := by decide +kernel
theorem dX8_rule_64 : decode cX8_rule 64 = .ok (.iconst 1, 1) := by decide +kernel
theorem dX8_rule_65 : decode cX8_rule 65 = .ok (.invokevirtual 62, 3) := by decide +kernel
theorem dX8_rule_68 : decode cX8_rule 68 = .ok (.ireturn, 1) := by decide +kernel
theorem dX8_shop_0 : decode cX8_shop 0 = .ok (.iload_n 1, 1) := by decide +kernel
theorem dX8_shop_1 : decode cX8_shop 1 = .ok (.iconst 0, 1) := by decide +kernel
theorem dX8_shop_2 : decode cX8_shop 2 = .ok (.bipush 69, 2) := by decide +kernel
theorem dX8_shop_4 : decode cX8_shop 4 = .ok (.invokestatic 58, 3) := by decide +kernel
theorem dX8_shop_7 : decode cX8_shop 7 = .ok (.ifCond .ne 9, 3) := by decide +kernel
theorem dX8_shop_10 : decode cX8_shop 10 = .ok (.aload_n 0, 1) := by decide +kernel
theorem dX8_shop_11 : decode cX8_shop 11 = .ok (.iconst 1, 1) := by decide +kernel
theorem dX8_shop_12 : decode cX8_shop 12 = .ok (.invokevirtual 62, 3) := by decide +kernel
theorem dX8_shop_15 : decode cX8_shop 15 = .ok (.ireturn, 1) := by decide +kernel
theorem dX8_shop_16 : decode cX8_shop 16 = .ok (.aload_n 0, 1) := by decide +kernel
theorem dX8_shop_17 : decode cX8_shop 17 = .ok (.getfield 10, 3) := by decide +kernel
theorem dX8_shop_20 : decode cX8_shop 20 = .ok (.getfield 76, 3) := by decide +kernel
theorem dX8_shop_23 : decode cX8_shop 23 = .ok (.bipush 6, 2) := by decide +kernel
theorem dX8_shop_25 : decode cX8_shop 25 = .ok (.if_icmp .lt 9, 3) := by decide +kernel
theorem dX8_shop_28 : decode cX8_shop 28 = .ok (.aload_n 0, 1) := by decide +kernel
theorem dX8_shop_29 : decode cX8_shop 29 = .ok (.iconst 4, 1) := by decide +kernel
theorem dX8_shop_30 : decode cX8_shop 30 = .ok (.invokevirtual 62, 3) := by decide +kernel
theorem dX8_shop_33 : decode cX8_shop 33 = .ok (.ireturn, 1) := by decide +kernel
theorem dX8_shop_34 : decode cX8_shop 34 = .ok (.aload_n 0, 1) := by decide +kernel
theorem dX8_shop_35 : decode cX8_shop 35 = .ok (.getfield 10, 3) := by decide +kernel
theorem dX8_shop_38 : decode cX8_shop 38 = .ok (.getfield 79, 3) := by decide +kernel
theorem dX8_shop_41 : decode cX8_shop 41 = .ok (.aload_n 0, 1) := by decide +kernel
theorem dX8_shop_42 : decode cX8_shop 42 = .ok (.getfield 10, 3) := by decide +kernel
theorem dX8_shop_45 : decode cX8_shop 45 = .ok (.getfield 76, 3) := by decide +kernel
theorem dX8_shop_48 : decode cX8_shop 48 = .ok (.aaload, 1) := by decide +kernel
theorem dX8_shop_49 : decode cX8_shop 49 = .ok (.iload_n 1, 1) := by decide +kernel
theorem dX8_shop_50 : decode cX8_shop 50 = .ok (.bipush 10, 2) := by decide +kernel
theorem dX8_shop_52 : decode cX8_shop 52 = .ok (.idiv, 1) := by decide +kernel
theorem dX8_shop_53 : decode cX8_shop 53 = .ok (.iload_n 1, 1) := by decide +kernel
theorem dX8_shop_54 : decode cX8_shop 54 = .ok (.bipush 10, 2) := by decide +kernel
theorem dX8_shop_56 : decode cX8_shop 56 = .ok (.irem, 1) := by decide +kernel
theorem dX8_shop_57 : decode cX8_shop 57 = .ok (.invokevirtual 83, 3) := by decide +kernel
theorem dX8_shop_60 : decode cX8_shop 60 = .ok (.aload_n 0, 1) := by decide +kernel
theorem dX8_shop_61 : decode cX8_shop 61 = .ok (.getfield 10, 3) := by decide +kernel
theorem dX8_shop_64 : decode cX8_shop 64 = .ok (.dup, 1) := by decide +kernel
theorem dX8_shop_65 : decode cX8_shop 65 = .ok (.getfield 76, 3) := by decide +kernel
theorem dX8_shop_68 : decode cX8_shop 68 = .ok (.iconst 1, 1) := by decide +kernel
theorem dX8_shop_69 : decode cX8_shop 69 = .ok (.iadd, 1) := by decide +kernel
theorem dX8_shop_70 : decode cX8_shop 70 = .ok (.putfield 76, 3) := by decide +kernel
theorem dX8_shop_73 : decode cX8_shop 73 = .ok (.aload_n 0, 1) := by decide +kernel
theorem dX8_shop_74 : decode cX8_shop 74 = .ok (.getfield 10, 3) := by decide +kernel
theorem dX8_shop_77 : decode cX8_shop 77 = .ok (.getfield 76, 3) := by decide +kernel
theorem dX8_shop_80 : decode cX8_shop 80 = .ok (.iconst 1, 1) := by decide +kernel
theorem dX8_shop_81 : decode cX8_shop 81 = .ok (.isub, 1) := by decide +kernel
theorem dX8_shop_82 : decode cX8_shop 82 = .ok (.ireturn, 1) := by decide +kernel
theorem dX8_shopIs_0 : decode cX8_shopIs 0 = .ok (.aload_n 0, 1) := by decide +kernel
theorem dX8_shopIs_1 : decode cX8_shopIs 1 = .ok (.getfield 10, 3) := by decide +kernel
theorem dX8_shopIs_4 : decode cX8_shopIs 4 = .ok (.iload_n 1, 1) := by decide +kernel
theorem dX8_shopIs_5 : decode cX8_shopIs 5 = .ok (.invokevirtual 89, 3) := by decide +kernel
theorem dX8_shopIs_8 : decode cX8_shopIs 8 = .ok (.ifCond .eq 13, 3) := by decide +kernel
theorem dX8_shopIs_11 : decode cX8_shopIs 11 = .ok (.iload_n 2, 1) := by decide +kernel
theorem dX8_shopIs_12 : decode cX8_shopIs 12 = .ok (.iconst 0, 1) := by decide +kernel
theorem dX8_shopIs_13 : decode cX8_shopIs 13 = .ok (.bipush 15, 2) := by decide +kernel
theorem dX8_shopIs_15 : decode cX8_shopIs 15 = .ok (.invokestatic 58, 3) := by decide +kernel
theorem dX8_shopIs_18 : decode cX8_shopIs 18 = .ok (.ifCond .ne 9, 3) := by decide +kernel
theorem dX8_shopIs_21 : decode cX8_shopIs 21 = .ok (.aload_n 0, 1) := by decide +kernel
theorem dX8_shopIs_22 : decode cX8_shopIs 22 = .ok (.iconst 1, 1) := by decide +kernel
theorem dX8_shopIs_23 : decode cX8_shopIs 23 = .ok (.invokevirtual 62, 3) := by decide +kernel
theorem dX8_shopIs_26 : decode cX8_shopIs 26 = .ok (.ireturn, 1) := by decide +kernel
theorem dX8_shopIs_27 : decode cX8_shopIs 27 = .ok (.aload_n 0, 1) := by decide +kernel
theorem dX8_shopIs_28 : decode cX8_shopIs 28 = .ok (.getfield 10, 3) := by decide +kernel
theorem dX8_shopIs_31 : decode cX8_shopIs 31 = .ok (.iload_n 1, 1) := by decide +kernel
theorem dX8_shopIs_32 : decode cX8_shopIs 32 = .ok (.iload_n 2, 1) := by decide +kernel
theorem dX8_shopIs_33 : decode cX8_shopIs 33 = .ok (.invokevirtual 92, 3) := by decide +kernel
theorem dX8_shopIs_36 : decode cX8_shopIs 36 = .ok (.ireturn, 1) := by decide +kernel
theorem dX8_as_0 : decode cX8_as 0 = .ok (.aload_n 0, 1) := by decide +kernel
theorem dX8_as_1 : decode cX8_as 1 = .ok (.getfield 10, 3) := by decide +kernel
theorem dX8_as_4 : decode cX8_as 4 = .ok (.iload_n 1, 1) := by decide +kernel
theorem dX8_as_5 : decode cX8_as 5 = .ok (.invokevirtual 89, 3) := by decide +kernel
theorem dX8_as_8 : decode cX8_as 8 = .ok (.ifCond .eq 13, 3) := by decide +kernel
theorem dX8_as_11 : decode cX8_as 11 = .ok (.iload_n 2, 1) := by decide +kernel
theorem dX8_as_12 : decode cX8_as 12 = .ok (.iconst 0, 1) := by decide +kernel
theorem dX8_as_13 : decode cX8_as 13 = .ok (.bipush 6, 2) := by decide +kernel
theorem dX8_as_15 : decode cX8_as 15 = .ok (.invokestatic 58, 3) := by decide +kernel
theorem dX8_as_18 : decode cX8_as 18 = .ok (.ifCond .ne 9, 3) := by decide +kernel
theorem dX8_as_21 : decode cX8_as 21 = .ok (.aload_n 0, 1) := by decide +kernel
theorem dX8_as_22 : decode cX8_as 22 = .ok (.iconst 1, 1) := by decide +kernel
theorem dX8_as_23 : decode cX8_as 23 = .ok (.invokevirtual 62, 3) := by decide +kernel
theorem dX8_as_26 : decode cX8_as 26 = .ok (.ireturn, 1) := by decide +kernel
theorem dX8_as_27 : decode cX8_as 27 = .ok (.aload_n 0, 1) := by decide +kernel
theorem dX8_as_28 : decode cX8_as 28 = .ok (.getfield 10, 3) := by decide +kernel
theorem dX8_as_31 : decode cX8_as 31 = .ok (.getfield 79, 3) := by decide +kernel
theorem dX8_as_34 : decode cX8_as 34 = .ok (.iload_n 1, 1) := by decide +kernel
theorem dX8_as_35 : decode cX8_as 35 = .ok (.aaload, 1) := by decide +kernel
theorem dX8_as_36 : decode cX8_as 36 = .ok (.getfield 96, 3) := by decide +kernel
theorem dX8_as_39 : decode cX8_as 39 = .ok (.iload_n 2, 1) := by decide +kernel
theorem dX8_as_40 : decode cX8_as 40 = .ok (.invokestatic 99, 3) := by decide +kernel
theorem dX8_as_43 : decode cX8_as 43 = .ok (.ifCond .ne 9, 3) := by decide +kernel
theorem dX8_as_46 : decode cX8_as 46 = .ok (.aload_n 0, 1) := by decide +kernel
theorem dX8_as_47 : decode cX8_as 47 = .ok (.iconst 5, 1) := by decide +kernel
theorem dX8_as_48 : decode cX8_as 48 = .ok (.invokevirtual 62, 3) := by decide +kernel
theorem dX8_as_51 : decode cX8_as 51 = .ok (.ireturn, 1) := by decide +kernel
theorem dX8_as_52 : decode cX8_as 52 = .ok (.aload_n 0, 1) := by decide +kernel
theorem dX8_as_53 : decode cX8_as 53 = .ok (.getfield 10, 3) := by decide +kernel
theorem dX8_as_56 : decode cX8_as 56 = .ok (.getfield 79, 3) := by decide +kernel
theorem dX8_as_59 : decode cX8_as 59 = .ok (.iload_n 1, 1) := by decide +kernel
theorem dX8_as_60 : decode cX8_as 60 = .ok (.aaload, 1) := by decide +kernel
theorem dX8_as_61 : decode cX8_as 61 = .ok (.getfield 103, 3) := by decide +kernel
theorem dX8_as_64 : decode cX8_as 64 = .ok (.ireturn, 1) := by decide +kernel
theorem dX8_set_0 : decode cX8_set 0 = .ok (.aload_n 0, 1) := by decide +kernel
theorem dX8_set_1 : decode cX8_set 1 = .ok (.getfield 10, 3) := by decide +kernel
theorem dX8_set_4 : decode cX8_set 4 = .ok (.iload_n 1, 1) := by decide +kernel
theorem dX8_set_5 : decode cX8_set 5 = .ok (.invokevirtual 89, 3) := by decide +kernel
theorem dX8_set_8 : decode cX8_set 8 = .ok (.ifCond .eq 15, 3) := by decide +kernel
theorem dX8_set_11 : decode cX8_set 11 = .ok (.iload_n 3, 1) := by decide +kernel
theorem dX8_set_12 : decode cX8_set 12 = .ok (.iconst 0, 1) := by decide +kernel
theorem dX8_set_13 : decode cX8_set 13 = .ok (.iload_n 2, 1) := by decide +kernel
theorem dX8_set_14 : decode cX8_set 14 = .ok (.invokestatic 106, 3) := by decide +kernel
theorem dX8_set_17 : decode cX8_set 17 = .ok (.invokestatic 58, 3) := by decide +kernel
theorem dX8_set_20 : decode cX8_set 20 = .ok (.ifCond .ne 9, 3) := by decide +kernel
theorem dX8_set_23 : decode cX8_set 23 = .ok (.aload_n 0, 1) := by decide +kernel
theorem dX8_set_24 : decode cX8_set 24 = .ok (.iconst 1, 1) := by decide +kernel
theorem dX8_set_25 : decode cX8_set 25 = .ok (.invokevirtual 62, 3) := by decide +kernel
theorem dX8_set_28 : decode cX8_set 28 = .ok (.ireturn, 1) := by decide +kernel
theorem dX8_set_29 : decode cX8_set 29 = .ok (.aload_n 0, 1) := by decide +kernel
theorem dX8_set_30 : decode cX8_set 30 = .ok (.getfield 10, 3) := by decide +kernel
theorem dX8_set_33 : decode cX8_set 33 = .ok (.iload_n 1, 1) := by decide +kernel
theorem dX8_set_34 : decode cX8_set 34 = .ok (.iload_n 2, 1) := by decide +kernel
theorem dX8_set_35 : decode cX8_set 35 = .ok (.invokevirtual 92, 3) := by decide +kernel
theorem dX8_set_38 : decode cX8_set 38 = .ok (.istore 4, 2) := by decide +kernel
theorem dX8_set_40 : decode cX8_set 40 = .ok (.aload_n 0, 1) := by decide +kernel
theorem dX8_set_41 : decode cX8_set 41 = .ok (.getfield 10, 3) := by decide +kernel
theorem dX8_set_44 : decode cX8_set 44 = .ok (.getfield 79, 3) := by decide +kernel
theorem dX8_set_47 : decode cX8_set 47 = .ok (.iload_n 1, 1) := by decide +kernel
theorem dX8_set_48 : decode cX8_set 48 = .ok (.aaload, 1) := by decide +kernel
theorem dX8_set_49 : decode cX8_set 49 = .ok (.iload_n 2, 1) := by decide +kernel
theorem dX8_set_50 : decode cX8_set 50 = .ok (.iload_n 3, 1) := by decide +kernel
theorem dX8_set_51 : decode cX8_set 51 = .ok (.invokevirtual 109, 3) := by decide +kernel
theorem dX8_set_54 : decode cX8_set 54 = .ok (.iload 4, 2) := by decide +kernel
theorem dX8_set_56 : decode cX8_set 56 = .ok (.ireturn, 1) := by decide +kernel
theorem dX8_price_0 : decode cX8_price 0 = .ok (.aload_n 0, 1) := by decide +kernel
theorem dX8_price_1 : decode cX8_price 1 = .ok (.getfield 10, 3) := by decide +kernel
theorem dX8_price_4 : decode cX8_price 4 = .ok (.iload_n 1, 1) := by decide +kernel
theorem dX8_price_5 : decode cX8_price 5 = .ok (.invokevirtual 89, 3) := by decide +kernel
theorem dX8_price_8 : decode cX8_price 8 = .ok (.ifCond .eq 10, 3) := by decide +kernel
theorem dX8_price_11 : decode cX8_price 11 = .ok (.iload_n 2, 1) := by decide +kernel
theorem dX8_price_12 : decode cX8_price 12 = .ok (.invokestatic 54, 3) := by decide +kernel
theorem dX8_price_15 : decode cX8_price 15 = .ok (.ifCond .ne 9, 3) := by decide +kernel
theorem dX8_price_18 : decode cX8_price 18 = .ok (.aload_n 0, 1) := by decide +kernel
theorem dX8_price_19 : decode cX8_price 19 = .ok (.iconst 1, 1) := by decide +kernel
theorem dX8_price_20 : decode cX8_price 20 = .ok (.invokevirtual 62, 3) := by decide +kernel
theorem dX8_price_23 : decode cX8_price 23 = .ok (.ireturn, 1) := by decide +kernel
theorem dX8_price_24 : decode cX8_price 24 = .ok (.aload_n 0, 1) := by decide +kernel
theorem dX8_price_25 : decode cX8_price 25 = .ok (.getfield 10, 3) := by decide +kernel
theorem dX8_price_28 : decode cX8_price 28 = .ok (.iload_n 1, 1) := by decide +kernel
theorem dX8_price_29 : decode cX8_price 29 = .ok (.iload_n 2, 1) := by decide +kernel
theorem dX8_price_30 : decode cX8_price 30 = .ok (.invokevirtual 112, 3) := by decide +kernel
theorem dX8_price_33 : decode cX8_price 33 = .ok (.ireturn, 1) := by decide +kernel
theorem dX8_fills_0 : decode cX8_fills 0 = .ok (.aload_n 0, 1) := by decide +kernel
theorem dX8_fills_1 : decode cX8_fills 1 = .ok (.getfield 10, 3) := by decide +kernel
theorem dX8_fills_4 : decode cX8_fills 4 = .ok (.iload_n 1, 1) := by decide +kernel
theorem dX8_fills_5 : decode cX8_fills 5 = .ok (.invokevirtual 89, 3) := by decide +kernel
theorem dX8_fills_8 : decode cX8_fills 8 = .ok (.ifCond .eq 10, 3) := by decide +kernel
theorem dX8_fills_11 : decode cX8_fills 11 = .ok (.iload_n 2, 1) := by decide +kernel
theorem dX8_fills_12 : decode cX8_fills 12 = .ok (.invokestatic 54, 3) := by decide +kernel
theorem dX8_fills_15 : decode cX8_fills 15 = .ok (.ifCond .ne 9, 3) := by decide +kernel
theorem dX8_fills_18 : decode cX8_fills 18 = .ok (.aload_n 0, 1) := by decide +kernel
theorem dX8_fills_19 : decode cX8_fills 19 = .ok (.iconst 1, 1) := by decide +kernel
theorem dX8_fills_20 : decode cX8_fills 20 = .ok (.invokevirtual 62, 3) := by decide +kernel
theorem dX8_fills_23 : decode cX8_fills 23 = .ok (.ireturn, 1) := by decide +kernel
theorem dX8_fills_24 : decode cX8_fills 24 = .ok (.aload_n 0, 1) := by decide +kernel
theorem dX8_fills_25 : decode cX8_fills 25 = .ok (.getfield 10, 3) := by decide +kernel
theorem dX8_fills_28 : decode cX8_fills 28 = .ok (.iload_n 1, 1) := by decide +kernel
theorem dX8_fills_29 : decode cX8_fills 29 = .ok (.iload_n 2, 1) := by decide +kernel
theorem dX8_fills_30 : decode cX8_fills 30 = .ok (.invokevirtual 115, 3) := by decide +kernel
theorem dX8_fills_33 : decode cX8_fills 33 = .ok (.ireturn, 1) := by decide +kernel
theorem dX8_customer_0 : decode cX8_customer 0 = .ok (.iload_n 1, 1) := by decide +kernel
theorem dX8_customer_1 : decode cX8_customer 1 = .ok (.iload_n 2, 1) := by decide +kernel
theorem dX8_customer_2 : decode cX8_customer 2 = .ok (.iload_n 3, 1) := by decide +kernel
theorem dX8_customer_3 : decode cX8_customer 3 = .ok (.invokestatic 118, 3) := by decide +kernel
theorem dX8_customer_6 : decode cX8_customer 6 = .ok (.ifCond .ne 9, 3) := by decide +kernel
theorem dX8_customer_9 : decode cX8_customer 9 = .ok (.aload_n 0, 1) := by decide +kernel
theorem dX8_customer_10 : decode cX8_customer 10 = .ok (.iconst 1, 1) := by decide +kernel
theorem dX8_customer_11 : decode cX8_customer 11 = .ok (.invokevirtual 62, 3) := by decide +kernel
theorem dX8_customer_14 : decode cX8_customer 14 = .ok (.ireturn, 1) := by decide +kernel
theorem dX8_customer_15 : decode cX8_customer 15 = .ok (.aload_n 0, 1) := by decide +kernel
theorem dX8_customer_16 : decode cX8_customer 16 = .ok (.getfield 10, 3) := by decide +kernel
theorem dX8_customer_19 : decode cX8_customer 19 = .ok (.getfield 121, 3) := by decide +kernel
theorem dX8_customer_22 : decode cX8_customer 22 = .ok (.bipush 10, 2) := by decide +kernel
theorem dX8_customer_24 : decode cX8_customer 24 = .ok (.if_icmp .lt 9, 3) := by decide +kernel
theorem dX8_customer_27 : decode cX8_customer 27 = .ok (.aload_n 0, 1) := by decide +kernel
theorem dX8_customer_28 : decode cX8_customer 28 = .ok (.iconst 4, 1) := by decide +kernel
theorem dX8_customer_29 : decode cX8_customer 29 = .ok (.invokevirtual 62, 3) := by decide +kernel
theorem dX8_customer_32 : decode cX8_customer 32 = .ok (.ireturn, 1) := by decide +kernel
theorem dX8_customer_33 : decode cX8_customer 33 = .ok (.aload_n 0, 1) := by decide +kernel
theorem dX8_customer_34 : decode cX8_customer 34 = .ok (.getfield 10, 3) := by decide +kernel
theorem dX8_customer_37 : decode cX8_customer 37 = .ok (.iload_n 1, 1) := by decide +kernel
theorem dX8_customer_38 : decode cX8_customer 38 = .ok (.iload_n 2, 1) := by decide +kernel
theorem dX8_customer_39 : decode cX8_customer 39 = .ok (.iload_n 3, 1) := by decide +kernel
theorem dX8_customer_40 : decode cX8_customer 40 = .ok (.invokevirtual 124, 3) := by decide +kernel
theorem dX8_customer_43 : decode cX8_customer 43 = .ok (.aload_n 0, 1) := by decide +kernel
theorem dX8_customer_44 : decode cX8_customer 44 = .ok (.getfield 10, 3) := by decide +kernel
theorem dX8_customer_47 : decode cX8_customer 47 = .ok (.getfield 121, 3) := by decide +kernel
theorem dX8_customer_50 : decode cX8_customer 50 = .ok (.iconst 1, 1) := by decide +kernel
theorem dX8_customer_51 : decode cX8_customer 51 = .ok (.isub, 1) := by decide +kernel
theorem dX8_customer_52 : decode cX8_customer 52 = .ok (.ireturn, 1) := by decide +kernel
theorem dX8_customerIs_0 : decode cX8_customerIs 0 = .ok (.aload_n 0, 1) := by decide +kernel
theorem dX8_customerIs_1 : decode cX8_customerIs 1 = .ok (.getfield 10, 3) := by decide +kernel
theorem dX8_customerIs_4 : decode cX8_customerIs 4 = .ok (.iload_n 1, 1) := by decide +kernel
theorem dX8_customerIs_5 : decode cX8_customerIs 5 = .ok (.invokevirtual 128, 3) := by decide +kernel
theorem dX8_customerIs_8 : decode cX8_customerIs 8 = .ok (.ifCond .ne 9, 3) := by decide +kernel
theorem dX8_customerIs_11 : decode cX8_customerIs 11 = .ok (.aload_n 0, 1) := by decide +kernel
theorem dX8_customerIs_12 : decode cX8_customerIs 12 = .ok (.iconst 1, 1) := by decide +kernel
theorem dX8_customerIs_13 : decode cX8_customerIs 13 = .ok (.invokevirtual 62, 3) := by decide +kernel
theorem dX8_customerIs_16 : decode cX8_customerIs 16 = .ok (.ireturn, 1) := by decide +kernel
theorem dX8_customerIs_17 : decode cX8_customerIs 17 = .ok (.aload_n 0, 1) := by decide +kernel
theorem dX8_customerIs_18 : decode cX8_customerIs 18 = .ok (.getfield 10, 3) := by decide +kernel
theorem dX8_customerIs_21 : decode cX8_customerIs 21 = .ok (.getfield 131, 3) := by decide +kernel
theorem dX8_customerIs_24 : decode cX8_customerIs 24 = .ok (.iload_n 1, 1) := by decide +kernel
theorem dX8_customerIs_25 : decode cX8_customerIs 25 = .ok (.aaload, 1) := by decide +kernel
theorem dX8_customerIs_26 : decode cX8_customerIs 26 = .ok (.astore_n 3, 1) := by decide +kernel
theorem dX8_customerIs_27 : decode cX8_customerIs 27 = .ok (.iload_n 2, 1) := by decide +kernel
theorem dX8_customerIs_28 : decode cX8_customerIs 28 = .ok (.tableswitch 52 0 3 #[32, 37, 42, 47], 32) := by decide +kernel
theorem dX8_customerIs_60 : decode cX8_customerIs 60 = .ok (.aload_n 3, 1) := by decide +kernel
theorem dX8_customerIs_61 : decode cX8_customerIs 61 = .ok (.getfield 135, 3) := by decide +kernel
theorem dX8_customerIs_64 : decode cX8_customerIs 64 = .ok (.ireturn, 1) := by decide +kernel
theorem dX8_customerIs_65 : decode cX8_customerIs 65 = .ok (.aload_n 3, 1) := by decide +kernel
theorem dX8_customerIs_66 : decode cX8_customerIs 66 = .ok (.getfield 140, 3) := by decide +kernel
theorem dX8_customerIs_69 : decode cX8_customerIs 69 = .ok (.ireturn, 1) := by decide +kernel
theorem dX8_customerIs_70 : decode cX8_customerIs 70 = .ok (.aload_n 3, 1) := by decide +kernel
theorem dX8_customerIs_71 : decode cX8_customerIs 71 = .ok (.getfield 143, 3) := by decide +kernel
theorem dX8_customerIs_74 : decode cX8_customerIs 74 = .ok (.ireturn, 1) := by decide +kernel
theorem dX8_customerIs_75 : decode cX8_customerIs 75 = .ok (.aload_n 3, 1) := by decide +kernel
theorem dX8_customerIs_76 : decode cX8_customerIs 76 = .ok (.getfield 146, 3) := by decide +kernel
theorem dX8_customerIs_79 : decode cX8_customerIs 79 = .ok (.ireturn, 1) := by decide +kernel
theorem dX8_customerIs_80 : decode cX8_customerIs 80 = .ok (.aload_n 0, 1) := by decide +kernel
theorem dX8_customerIs_81 : decode cX8_customerIs 81 = .ok (.iconst 1, 1) := by decide +kernel
theorem dX8_customerIs_82 : decode cX8_customerIs 82 = .ok (.invokevirtual 62, 3) := by decide +kernel
theorem dX8_customerIs_85 : decode cX8_customerIs 85 = .ok (.ireturn, 1) := by decide +kernel
theorem dX8_leave_0 : decode cX8_leave 0 = .ok (.aload_n 0, 1) := by decide +kernel
theorem dX8_leave_1 : decode cX8_leave 1 = .ok (.getfield 10, 3) := by decide +kernel
theorem dX8_leave_4 : decode cX8_leave 4 = .ok (.getfield 121, 3) := by decide +kernel
theorem dX8_leave_7 : decode cX8_leave 7 = .ok (.ifCond .gt 9, 3) := by decide +kernel
theorem dX8_leave_10 : decode cX8_leave 10 = .ok (.aload_n 0, 1) := by decide +kernel
theorem dX8_leave_11 : decode cX8_leave 11 = .ok (.iconst 3, 1) := by decide +kernel
theorem dX8_leave_12 : decode cX8_leave 12 = .ok (.invokevirtual 62, 3) := by decide +kernel
theorem dX8_leave_15 : decode cX8_leave 15 = .ok (.ireturn, 1) := by decide +kernel
theorem dX8_leave_16 : decode cX8_leave 16 = .ok (.aload_n 0, 1) := by decide +kernel
theorem dX8_leave_17 : decode cX8_leave 17 = .ok (.getfield 10, 3) := by decide +kernel
theorem dX8_leave_20 : decode cX8_leave 20 = .ok (.dup, 1) := by decide +kernel
theorem dX8_leave_21 : decode cX8_leave 21 = .ok (.getfield 121, 3) := by decide +kernel
theorem dX8_leave_24 : decode cX8_leave 24 = .ok (.iconst 1, 1) := by decide +kernel
theorem dX8_leave_25 : decode cX8_leave 25 = .ok (.isub, 1) := by decide +kernel
theorem dX8_leave_26 : decode cX8_leave 26 = .ok (.putfield 121, 3) := by decide +kernel
theorem dX8_leave_29 : decode cX8_leave 29 = .ok (.aload_n 0, 1) := by decide +kernel
theorem dX8_leave_30 : decode cX8_leave 30 = .ok (.getfield 10, 3) := by decide +kernel
theorem dX8_leave_33 : decode cX8_leave 33 = .ok (.getfield 121, 3) := by decide +kernel
theorem dX8_leave_36 : decode cX8_leave 36 = .ok (.ireturn, 1) := by decide +kernel
theorem dX8_feed_0 : decode cX8_feed 0 = .ok (.iload_n 3, 1) := by decide +kernel
theorem dX8_feed_1 : decode cX8_feed 1 = .ok (.iconst 1, 1) := by decide +kernel
theorem dX8_feed_2 : decode cX8_feed 2 = .ok (.bipush 8, 2) := by decide +kernel
theorem dX8_feed_4 : decode cX8_feed 4 = .ok (.invokestatic 58, 3) := by decide +kernel
theorem dX8_feed_7 : decode cX8_feed 7 = .ok (.ifCond .ne 9, 3) := by decide +kernel
theorem dX8_feed_10 : decode cX8_feed 10 = .ok (.aload_n 0, 1) := by decide +kernel
theorem dX8_feed_11 : decode cX8_feed 11 = .ok (.iconst 1, 1) := by decide +kernel
theorem dX8_feed_12 : decode cX8_feed 12 = .ok (.invokevirtual 62, 3) := by decide +kernel
theorem dX8_feed_15 : decode cX8_feed 15 = .ok (.ireturn, 1) := by decide +kernel
theorem dX8_feed_16 : decode cX8_feed 16 = .ok (.aload_n 0, 1) := by decide +kernel
theorem dX8_feed_17 : decode cX8_feed 17 = .ok (.getfield 10, 3) := by decide +kernel
theorem dX8_feed_20 : decode cX8_feed 20 = .ok (.getfield 149, 3) := by decide +kernel
theorem dX8_feed_23 : decode cX8_feed 23 = .ok (.iload_n 3, 1) := by decide +kernel
theorem dX8_feed_24 : decode cX8_feed 24 = .ok (.iadd, 1) := by decide +kernel
theorem dX8_feed_25 : decode cX8_feed 25 = .ok (.bipush 60, 2) := by decide +kernel
theorem dX8_feed_27 : decode cX8_feed 27 = .ok (.if_icmp .le 9, 3) := by decide +kernel
theorem dX8_feed_30 : decode cX8_feed 30 = .ok (.aload_n 0, 1) := by decide +kernel
theorem dX8_feed_31 : decode cX8_feed 31 = .ok (.iconst 4, 1) := by decide +kernel
theorem dX8_feed_32 : decode cX8_feed 32 = .ok (.invokevirtual 62, 3) := by decide +kernel
theorem dX8_feed_35 : decode cX8_feed 35 = .ok (.ireturn, 1) := by decide +kernel
theorem dX8_feed_36 : decode cX8_feed 36 = .ok (.iconst 0, 1) := by decide +kernel
theorem dX8_feed_37 : decode cX8_feed 37 = .ok (.istore 4, 2) := by decide +kernel
theorem dX8_feed_39 : decode cX8_feed 39 = .ok (.iload 4, 2) := by decide +kernel
theorem dX8_feed_41 : decode cX8_feed 41 = .ok (.iload_n 3, 1) := by decide +kernel
theorem dX8_feed_42 : decode cX8_feed 42 = .ok (.if_icmp .ge 39, 3) := by decide +kernel
theorem dX8_feed_45 : decode cX8_feed 45 = .ok (.aload_n 0, 1) := by decide +kernel
theorem dX8_feed_46 : decode cX8_feed 46 = .ok (.getfield 10, 3) := by decide +kernel
theorem dX8_feed_49 : decode cX8_feed 49 = .ok (.getfield 152, 3) := by decide +kernel
theorem dX8_feed_52 : decode cX8_feed 52 = .ok (.aload_n 0, 1) := by decide +kernel
theorem dX8_feed_53 : decode cX8_feed 53 = .ok (.getfield 10, 3) := by decide +kernel
theorem dX8_feed_56 : decode cX8_feed 56 = .ok (.getfield 149, 3) := by decide +kernel
theorem dX8_feed_59 : decode cX8_feed 59 = .ok (.iload 4, 2) := by decide +kernel
theorem dX8_feed_61 : decode cX8_feed 61 = .ok (.iadd, 1) := by decide +kernel
theorem dX8_feed_62 : decode cX8_feed 62 = .ok (.lload_n 1, 1) := by decide +kernel
theorem dX8_feed_63 : decode cX8_feed 63 = .ok (.bipush 8, 2) := by decide +kernel
theorem dX8_feed_65 : decode cX8_feed 65 = .ok (.iload 4, 2) := by decide +kernel
theorem dX8_feed_67 : decode cX8_feed 67 = .ok (.imul, 1) := by decide +kernel
theorem dX8_feed_68 : decode cX8_feed 68 = .ok (.lushr, 1) := by decide +kernel
theorem dX8_feed_69 : decode cX8_feed 69 = .ok (.l2i, 1) := by decide +kernel
theorem dX8_feed_70 : decode cX8_feed 70 = .ok (.sipush 255, 3) := by decide +kernel
theorem dX8_feed_73 : decode cX8_feed 73 = .ok (.iand, 1) := by decide +kernel
theorem dX8_feed_74 : decode cX8_feed 74 = .ok (.iastore, 1) := by decide +kernel
theorem dX8_feed_75 : decode cX8_feed 75 = .ok (.iinc 4 1, 3) := by decide +kernel
theorem dX8_feed_78 : decode cX8_feed 78 = .ok (.goto (-39), 3) := by decide +kernel
theorem dX8_feed_81 : decode cX8_feed 81 = .ok (.aload_n 0, 1) := by decide +kernel
theorem dX8_feed_82 : decode cX8_feed 82 = .ok (.getfield 10, 3) := by decide +kernel
theorem dX8_feed_85 : decode cX8_feed 85 = .ok (.dup, 1) := by decide +kernel
theorem dX8_feed_86 : decode cX8_feed 86 = .ok (.getfield 149, 3) := by decide +kernel
theorem dX8_feed_89 : decode cX8_feed 89 = .ok (.iload_n 3, 1) := by decide +kernel
theorem dX8_feed_90 : decode cX8_feed 90 = .ok (.iadd, 1) := by decide +kernel
theorem dX8_feed_91 : decode cX8_feed 91 = .ok (.putfield 149, 3) := by decide +kernel
theorem dX8_feed_94 : decode cX8_feed 94 = .ok (.aload_n 0, 1) := by decide +kernel
theorem dX8_feed_95 : decode cX8_feed 95 = .ok (.getfield 10, 3) := by decide +kernel
theorem dX8_feed_98 : decode cX8_feed 98 = .ok (.getfield 149, 3) := by decide +kernel
theorem dX8_feed_101 : decode cX8_feed 101 = .ok (.ireturn, 1) := by decide +kernel
theorem dX8_text_0 : decode cX8_text 0 = .ok (.iload_n 1, 1) := by decide +kernel
theorem dX8_text_1 : decode cX8_text 1 = .ok (.invokestatic 155, 3) := by decide +kernel
theorem dX8_text_4 : decode cX8_text 4 = .ok (.ifCond .ne 9, 3) := by decide +kernel
theorem dX8_text_7 : decode cX8_text 7 = .ok (.aload_n 0, 1) := by decide +kernel
theorem dX8_text_8 : decode cX8_text 8 = .ok (.iconst 1, 1) := by decide +kernel
theorem dX8_text_9 : decode cX8_text 9 = .ok (.invokevirtual 62, 3) := by decide +kernel
theorem dX8_text_12 : decode cX8_text 12 = .ok (.ireturn, 1) := by decide +kernel
theorem dX8_text_13 : decode cX8_text 13 = .ok (.aload_n 0, 1) := by decide +kernel
theorem dX8_text_14 : decode cX8_text 14 = .ok (.getfield 31, 3) := by decide +kernel
theorem dX8_text_17 : decode cX8_text 17 = .ok (.aload_n 0, 1) := by decide +kernel
theorem dX8_text_18 : decode cX8_text 18 = .ok (.getfield 10, 3) := by decide +kernel
theorem dX8_text_21 : decode cX8_text 21 = .ok (.getfield 152, 3) := by decide +kernel
theorem dX8_text_24 : decode cX8_text 24 = .ok (.aload_n 0, 1) := by decide +kernel
theorem dX8_text_25 : decode cX8_text 25 = .ok (.getfield 10, 3) := by decide +kernel
theorem dX8_text_28 : decode cX8_text 28 = .ok (.getfield 149, 3) := by decide +kernel
theorem dX8_text_31 : decode cX8_text 31 = .ok (.iload_n 1, 1) := by decide +kernel
theorem dX8_text_32 : decode cX8_text 32 = .ok (.invokevirtual 158, 3) := by decide +kernel
theorem dX8_text_35 : decode cX8_text 35 = .ok (.istore_n 2, 1) := by decide +kernel
theorem dX8_text_36 : decode cX8_text 36 = .ok (.aload_n 0, 1) := by decide +kernel
theorem dX8_text_37 : decode cX8_text 37 = .ok (.getfield 10, 3) := by decide +kernel
theorem dX8_text_40 : decode cX8_text 40 = .ok (.iconst 0, 1) := by decide +kernel
theorem dX8_text_41 : decode cX8_text 41 = .ok (.putfield 149, 3) := by decide +kernel
theorem dX8_text_44 : decode cX8_text 44 = .ok (.iload_n 2, 1) := by decide +kernel
theorem dX8_text_45 : decode cX8_text 45 = .ok (.ifCond .lt 8, 3) := by decide +kernel
theorem dX8_text_48 : decode cX8_text 48 = .ok (.bipush (-10), 2) := by decide +kernel
theorem dX8_text_50 : decode cX8_text 50 = .ok (.iload_n 2, 1) := by decide +kernel
theorem dX8_text_51 : decode cX8_text 51 = .ok (.isub, 1) := by decide +kernel
theorem dX8_text_52 : decode cX8_text 52 = .ok (.ireturn, 1) := by decide +kernel
theorem dX8_text_53 : decode cX8_text 53 = .ok (.aload_n 0, 1) := by decide +kernel
theorem dX8_text_54 : decode cX8_text 54 = .ok (.getfield 10, 3) := by decide +kernel
theorem dX8_text_57 : decode cX8_text 57 = .ok (.getfield 162, 3) := by decide +kernel
theorem dX8_text_60 : decode cX8_text 60 = .ok (.iload_n 1, 1) := by decide +kernel
theorem dX8_text_61 : decode cX8_text 61 = .ok (.aaload, 1) := by decide +kernel
theorem dX8_text_62 : decode cX8_text 62 = .ok (.aload_n 0, 1) := by decide +kernel
theorem dX8_text_63 : decode cX8_text 63 = .ok (.getfield 31, 3) := by decide +kernel
theorem dX8_text_66 : decode cX8_text 66 = .ok (.getfield 166, 3) := by decide +kernel
theorem dX8_text_69 : decode cX8_text 69 = .ok (.aload_n 0, 1) := by decide +kernel
theorem dX8_text_70 : decode cX8_text 70 = .ok (.getfield 31, 3) := by decide +kernel
theorem dX8_text_73 : decode cX8_text 73 = .ok (.getfield 169, 3) := by decide +kernel
theorem dX8_text_76 : decode cX8_text 76 = .ok (.invokevirtual 172, 3) := by decide +kernel
theorem dX8_text_79 : decode cX8_text 79 = .ok (.iconst 1, 1) := by decide +kernel
theorem dX8_text_80 : decode cX8_text 80 = .ok (.ireturn, 1) := by decide +kernel
theorem dX8_untell_0 : decode cX8_untell 0 = .ok (.iload_n 1, 1) := by decide +kernel
theorem dX8_untell_1 : decode cX8_untell 1 = .ok (.invokestatic 155, 3) := by decide +kernel
theorem dX8_untell_4 : decode cX8_untell 4 = .ok (.ifCond .ne 9, 3) := by decide +kernel
theorem dX8_untell_7 : decode cX8_untell 7 = .ok (.aload_n 0, 1) := by decide +kernel
theorem dX8_untell_8 : decode cX8_untell 8 = .ok (.iconst 1, 1) := by decide +kernel
theorem dX8_untell_9 : decode cX8_untell 9 = .ok (.invokevirtual 62, 3) := by decide +kernel
theorem dX8_untell_12 : decode cX8_untell 12 = .ok (.ireturn, 1) := by decide +kernel
theorem dX8_untell_13 : decode cX8_untell 13 = .ok (.aload_n 0, 1) := by decide +kernel
theorem dX8_untell_14 : decode cX8_untell 14 = .ok (.getfield 10, 3) := by decide +kernel
theorem dX8_untell_17 : decode cX8_untell 17 = .ok (.getfield 162, 3) := by decide +kernel
theorem dX8_untell_20 : decode cX8_untell 20 = .ok (.iload_n 1, 1) := by decide +kernel
theorem dX8_untell_21 : decode cX8_untell 21 = .ok (.aaload, 1) := by decide +kernel
theorem dX8_untell_22 : decode cX8_untell 22 = .ok (.invokevirtual 178, 3) := by decide +kernel
theorem dX8_untell_25 : decode cX8_untell 25 = .ok (.ifCond .eq 7, 3) := by decide +kernel
theorem dX8_untell_28 : decode cX8_untell 28 = .ok (.iconst 1, 1) := by decide +kernel
theorem dX8_untell_29 : decode cX8_untell 29 = .ok (.goto 4, 3) := by decide +kernel
theorem dX8_untell_32 : decode cX8_untell 32 = .ok (.iconst 0, 1) := by decide +kernel
theorem dX8_untell_33 : decode cX8_untell 33 = .ok (.istore_n 2, 1) := by decide +kernel
theorem dX8_untell_34 : decode cX8_untell 34 = .ok (.aload_n 0, 1) := by decide +kernel
theorem dX8_untell_35 : decode cX8_untell 35 = .ok (.getfield 10, 3) := by decide +kernel
theorem dX8_untell_38 : decode cX8_untell 38 = .ok (.getfield 162, 3) := by decide +kernel
theorem dX8_untell_41 : decode cX8_untell 41 = .ok (.iload_n 1, 1) := by decide +kernel
theorem dX8_untell_42 : decode cX8_untell 42 = .ok (.aaload, 1) := by decide +kernel
theorem dX8_untell_43 : decode cX8_untell 43 = .ok (.iconst 0, 1) := by decide +kernel
theorem dX8_untell_44 : decode cX8_untell 44 = .ok (.putfield 182, 3) := by decide +kernel
theorem dX8_untell_47 : decode cX8_untell 47 = .ok (.iload_n 2, 1) := by decide +kernel
theorem dX8_untell_48 : decode cX8_untell 48 = .ok (.ireturn, 1) := by decide +kernel
theorem dX8_morning_0 : decode cX8_morning 0 = .ok (.aload_n 0, 1) := by decide +kernel
theorem dX8_morning_1 : decode cX8_morning 1 = .ok (.getfield 10, 3) := by decide +kernel
theorem dX8_morning_4 : decode cX8_morning 4 = .ok (.invokevirtual 185, 3) := by decide +kernel
theorem dX8_morning_7 : decode cX8_morning 7 = .ok (.aload_n 0, 1) := by decide +kernel
theorem dX8_morning_8 : decode cX8_morning 8 = .ok (.getfield 10, 3) := by decide +kernel
theorem dX8_morning_11 : decode cX8_morning 11 = .ok (.invokevirtual 188, 3) := by decide +kernel
theorem dX8_morning_14 : decode cX8_morning 14 = .ok (.ireturn, 1) := by decide +kernel
theorem dX8_visit_0 : decode cX8_visit 0 = .ok (.aload_n 0, 1) := by decide +kernel
theorem dX8_visit_1 : decode cX8_visit 1 = .ok (.getfield 10, 3) := by decide +kernel
theorem dX8_visit_4 : decode cX8_visit 4 = .ok (.iload_n 1, 1) := by decide +kernel
theorem dX8_visit_5 : decode cX8_visit 5 = .ok (.invokevirtual 128, 3) := by decide +kernel
theorem dX8_visit_8 : decode cX8_visit 8 = .ok (.ifCond .ne 9, 3) := by decide +kernel
theorem dX8_visit_11 : decode cX8_visit 11 = .ok (.aload_n 0, 1) := by decide +kernel
theorem dX8_visit_12 : decode cX8_visit 12 = .ok (.iconst 1, 1) := by decide +kernel
theorem dX8_visit_13 : decode cX8_visit 13 = .ok (.invokevirtual 62, 3) := by decide +kernel
theorem dX8_visit_16 : decode cX8_visit 16 = .ok (.ireturn, 1) := by decide +kernel
theorem dX8_visit_17 : decode cX8_visit 17 = .ok (.aload_n 0, 1) := by decide +kernel
theorem dX8_visit_18 : decode cX8_visit 18 = .ok (.getfield 10, 3) := by decide +kernel
theorem dX8_visit_21 : decode cX8_visit 21 = .ok (.iload_n 1, 1) := by decide +kernel
theorem dX8_visit_22 : decode cX8_visit 22 = .ok (.invokevirtual 192, 3) := by decide +kernel
theorem dX8_visit_25 : decode cX8_visit 25 = .ok (.ireturn, 1) := by decide +kernel
theorem dX8_days_0 : decode cX8_days 0 = .ok (.aload_n 0, 1) := by decide +kernel
theorem dX8_days_1 : decode cX8_days 1 = .ok (.iload_n 1, 1) := by decide +kernel
theorem dX8_days_2 : decode cX8_days 2 = .ok (.invokevirtual 195, 3) := by decide +kernel
theorem dX8_days_5 : decode cX8_days 5 = .ok (.istore_n 2, 1) := by decide +kernel
theorem dX8_days_6 : decode cX8_days 6 = .ok (.iload_n 2, 1) := by decide +kernel
theorem dX8_days_7 : decode cX8_days 7 = .ok (.ifCond .eq 9, 3) := by decide +kernel
theorem dX8_days_10 : decode cX8_days 10 = .ok (.aload_n 0, 1) := by decide +kernel
theorem dX8_days_11 : decode cX8_days 11 = .ok (.iload_n 2, 1) := by decide +kernel
theorem dX8_days_12 : decode cX8_days 12 = .ok (.invokevirtual 62, 3) := by decide +kernel
theorem dX8_days_15 : decode cX8_days 15 = .ok (.ireturn, 1) := by decide +kernel
theorem dX8_days_16 : decode cX8_days 16 = .ok (.aload_n 0, 1) := by decide +kernel
theorem dX8_days_17 : decode cX8_days 17 = .ok (.getfield 10, 3) := by decide +kernel
theorem dX8_days_20 : decode cX8_days 20 = .ok (.iload_n 1, 1) := by decide +kernel
theorem dX8_days_21 : decode cX8_days 21 = .ok (.iconst 0, 1) := by decide +kernel
theorem dX8_days_22 : decode cX8_days 22 = .ok (.invokevirtual 198, 3) := by decide +kernel
theorem dX8_days_25 : decode cX8_days 25 = .ok (.aload_n 0, 1) := by decide +kernel
theorem dX8_days_26 : decode cX8_days 26 = .ok (.getfield 10, 3) := by decide +kernel
theorem dX8_days_29 : decode cX8_days 29 = .ok (.getfield 202, 3) := by decide +kernel
theorem dX8_days_32 : decode cX8_days 32 = .ok (.ireturn, 1) := by decide +kernel
theorem dX8_loose_0 : decode cX8_loose 0 = .ok (.aload_n 0, 1) := by decide +kernel
theorem dX8_loose_1 : decode cX8_loose 1 = .ok (.iload_n 1, 1) := by decide +kernel
theorem dX8_loose_2 : decode cX8_loose 2 = .ok (.invokevirtual 195, 3) := by decide +kernel
theorem dX8_loose_5 : decode cX8_loose 5 = .ok (.istore_n 2, 1) := by decide +kernel
theorem dX8_loose_6 : decode cX8_loose 6 = .ok (.iload_n 2, 1) := by decide +kernel
theorem dX8_loose_7 : decode cX8_loose 7 = .ok (.ifCond .eq 9, 3) := by decide +kernel
theorem dX8_loose_10 : decode cX8_loose 10 = .ok (.aload_n 0, 1) := by decide +kernel
theorem dX8_loose_11 : decode cX8_loose 11 = .ok (.iload_n 2, 1) := by decide +kernel
theorem dX8_loose_12 : decode cX8_loose 12 = .ok (.invokevirtual 62, 3) := by decide +kernel
theorem dX8_loose_15 : decode cX8_loose 15 = .ok (.ireturn, 1) := by decide +kernel
theorem dX8_loose_16 : decode cX8_loose 16 = .ok (.aload_n 0, 1) := by decide +kernel
theorem dX8_loose_17 : decode cX8_loose 17 = .ok (.getfield 10, 3) := by decide +kernel
theorem dX8_loose_20 : decode cX8_loose 20 = .ok (.iload_n 1, 1) := by decide +kernel
theorem dX8_loose_21 : decode cX8_loose 21 = .ok (.iconst 1, 1) := by decide +kernel
theorem dX8_loose_22 : decode cX8_loose 22 = .ok (.invokevirtual 198, 3) := by decide +kernel
theorem dX8_loose_25 : decode cX8_loose 25 = .ok (.aload_n 0, 1) := by decide +kernel
theorem dX8_loose_26 : decode cX8_loose 26 = .ok (.getfield 10, 3) := by decide +kernel
theorem dX8_loose_29 : decode cX8_loose 29 = .ok (.getfield 202, 3) := by decide +kernel
theorem dX8_loose_32 : decode cX8_loose 32 = .ok (.ireturn, 1) := by decide +kernel
theorem dX8_seed_0 : decode cX8_seed 0 = .ok (.aload_n 0, 1) := by decide +kernel
theorem dX8_seed_1 : decode cX8_seed 1 = .ok (.getfield 10, 3) := by decide +kernel
theorem dX8_seed_4 : decode cX8_seed 4 = .ok (.getfield 205, 3) := by decide +kernel
theorem dX8_seed_7 : decode cX8_seed 7 = .ok (.istore_n 2, 1) := by decide +kernel
theorem dX8_seed_8 : decode cX8_seed 8 = .ok (.aload_n 0, 1) := by decide +kernel
theorem dX8_seed_9 : decode cX8_seed 9 = .ok (.getfield 10, 3) := by decide +kernel
theorem dX8_seed_12 : decode cX8_seed 12 = .ok (.iload_n 1, 1) := by decide +kernel
theorem dX8_seed_13 : decode cX8_seed 13 = .ok (.putfield 205, 3) := by decide +kernel
theorem dX8_seed_16 : decode cX8_seed 16 = .ok (.iload_n 2, 1) := by decide +kernel
theorem dX8_seed_17 : decode cX8_seed 17 = .ok (.ireturn, 1) := by decide +kernel
theorem dX8_then_0 : decode cX8_then 0 = .ok (.iload_n 1, 1) := by decide +kernel
theorem dX8_then_1 : decode cX8_then 1 = .ok (.iconst 0, 1) := by decide +kernel
theorem dX8_then_2 : decode cX8_then 2 = .ok (.bipush 60, 2) := by decide +kernel
theorem dX8_then_4 : decode cX8_then 4 = .ok (.invokestatic 58, 3) := by decide +kernel
theorem dX8_then_7 : decode cX8_then 7 = .ok (.ifCond .eq 24, 3) := by decide +kernel
theorem dX8_then_10 : decode cX8_then 10 = .ok (.aload_n 0, 1) := by decide +kernel
theorem dX8_then_11 : decode cX8_then 11 = .ok (.getfield 10, 3) := by decide +kernel
theorem dX8_then_14 : decode cX8_then 14 = .ok (.iload_n 2, 1) := by decide +kernel
theorem dX8_then_15 : decode cX8_then 15 = .ok (.invokevirtual 89, 3) := by decide +kernel
theorem dX8_then_18 : decode cX8_then 18 = .ok (.ifCond .eq 13, 3) := by decide +kernel
theorem dX8_then_21 : decode cX8_then 21 = .ok (.iload_n 3, 1) := by decide +kernel
theorem dX8_then_22 : decode cX8_then 22 = .ok (.iconst 0, 1) := by decide +kernel
theorem dX8_then_23 : decode cX8_then 23 = .ok (.bipush 15, 2) := by decide +kernel
theorem dX8_then_25 : decode cX8_then 25 = .ok (.invokestatic 58, 3) := by decide +kernel
theorem dX8_then_28 : decode cX8_then 28 = .ok (.ifCond .ne 9, 3) := by decide +kernel
theorem dX8_then_31 : decode cX8_then 31 = .ok (.aload_n 0, 1) := by decide +kernel
theorem dX8_then_32 : decode cX8_then 32 = .ok (.iconst 1, 1) := by decide +kernel
theorem dX8_then_33 : decode cX8_then 33 = .ok (.invokevirtual 62, 3) := by decide +kernel
theorem dX8_then_36 : decode cX8_then 36 = .ok (.ireturn, 1) := by decide +kernel
theorem dX8_then_37 : decode cX8_then 37 = .ok (.aload_n 0, 1) := by decide +kernel
theorem dX8_then_38 : decode cX8_then 38 = .ok (.getfield 19, 3) := by decide +kernel
theorem dX8_then_41 : decode cX8_then 41 = .ok (.aload_n 0, 1) := by decide +kernel
theorem dX8_then_42 : decode cX8_then 42 = .ok (.getfield 10, 3) := by decide +kernel
theorem dX8_then_45 : decode cX8_then 45 = .ok (.invokevirtual 208, 3) := by decide +kernel
theorem dX8_then_48 : decode cX8_then 48 = .ok (.aload_n 0, 1) := by decide +kernel
theorem dX8_then_49 : decode cX8_then 49 = .ok (.getfield 19, 3) := by decide +kernel
theorem dX8_then_52 : decode cX8_then 52 = .ok (.iload_n 1, 1) := by decide +kernel
theorem dX8_then_53 : decode cX8_then 53 = .ok (.iconst 0, 1) := by decide +kernel
theorem dX8_then_54 : decode cX8_then 54 = .ok (.invokevirtual 198, 3) := by decide +kernel
theorem dX8_then_57 : decode cX8_then 57 = .ok (.aload_n 0, 1) := by decide +kernel
theorem dX8_then_58 : decode cX8_then 58 = .ok (.getfield 19, 3) := by decide +kernel
theorem dX8_then_61 : decode cX8_then 61 = .ok (.iload_n 2, 1) := by decide +kernel
theorem dX8_then_62 : decode cX8_then 62 = .ok (.iload_n 3, 1) := by decide +kernel
theorem dX8_then_63 : decode cX8_then 63 = .ok (.invokevirtual 92, 3) := by decide +kernel
theorem dX8_then_66 : decode cX8_then 66 = .ok (.ireturn, 1) := by decide +kernel
theorem dX8_keep_0 : decode cX8_keep 0 = .ok (.aload_n 0, 1) := by decide +kernel
theorem dX8_keep_1 : decode cX8_keep 1 = .ok (.getfield 10, 3) := by decide +kernel
theorem dX8_keep_4 : decode cX8_keep 4 = .ok (.iload_n 1, 1) := by decide +kernel
theorem dX8_keep_5 : decode cX8_keep 5 = .ok (.invokevirtual 89, 3) := by decide +kernel
theorem dX8_keep_8 : decode cX8_keep 8 = .ok (.ifCond .eq 20, 3) := by decide +kernel
theorem dX8_keep_11 : decode cX8_keep 11 = .ok (.iload_n 2, 1) := by decide +kernel
theorem dX8_keep_12 : decode cX8_keep 12 = .ok (.invokestatic 54, 3) := by decide +kernel
theorem dX8_keep_15 : decode cX8_keep 15 = .ok (.ifCond .eq 13, 3) := by decide +kernel
theorem dX8_keep_18 : decode cX8_keep 18 = .ok (.iload_n 3, 1) := by decide +kernel
theorem dX8_keep_19 : decode cX8_keep 19 = .ok (.iconst 1, 1) := by decide +kernel
theorem dX8_keep_20 : decode cX8_keep 20 = .ok (.bipush 20, 2) := by decide +kernel
theorem dX8_keep_22 : decode cX8_keep 22 = .ok (.invokestatic 58, 3) := by decide +kernel
theorem dX8_keep_25 : decode cX8_keep 25 = .ok (.ifCond .ne 9, 3) := by decide +kernel
theorem dX8_keep_28 : decode cX8_keep 28 = .ok (.aload_n 0, 1) := by decide +kernel
theorem dX8_keep_29 : decode cX8_keep 29 = .ok (.iconst 1, 1) := by decide +kernel
theorem dX8_keep_30 : decode cX8_keep 30 = .ok (.invokevirtual 62, 3) := by decide +kernel
theorem dX8_keep_33 : decode cX8_keep 33 = .ok (.ireturn, 1) := by decide +kernel
theorem dX8_keep_34 : decode cX8_keep 34 = .ok (.iconst 0, 1) := by decide +kernel
theorem dX8_keep_35 : decode cX8_keep 35 = .ok (.istore 4, 2) := by decide +kernel
theorem dX8_keep_37 : decode cX8_keep 37 = .ok (.ldc 212, 2) := by decide +kernel
theorem dX8_keep_39 : decode cX8_keep 39 = .ok (.istore 5, 2) := by decide +kernel
theorem dX8_keep_41 : decode cX8_keep 41 = .ok (.iconst 0, 1) := by decide +kernel
theorem dX8_keep_42 : decode cX8_keep 42 = .ok (.istore 6, 2) := by decide +kernel
theorem dX8_keep_44 : decode cX8_keep 44 = .ok (.iload 6, 2) := by decide +kernel
theorem dX8_keep_46 : decode cX8_keep 46 = .ok (.bipush 9, 2) := by decide +kernel
theorem dX8_keep_48 : decode cX8_keep 48 = .ok (.if_icmp .gt 80, 3) := by decide +kernel
theorem dX8_keep_51 : decode cX8_keep 51 = .ok (.aload_n 0, 1) := by decide +kernel
theorem dX8_keep_52 : decode cX8_keep 52 = .ok (.getfield 19, 3) := by decide +kernel
theorem dX8_keep_55 : decode cX8_keep 55 = .ok (.aload_n 0, 1) := by decide +kernel
theorem dX8_keep_56 : decode cX8_keep 56 = .ok (.getfield 10, 3) := by decide +kernel
theorem dX8_keep_59 : decode cX8_keep 59 = .ok (.invokevirtual 208, 3) := by decide +kernel
theorem dX8_keep_62 : decode cX8_keep 62 = .ok (.aload_n 0, 1) := by decide +kernel
theorem dX8_keep_63 : decode cX8_keep 63 = .ok (.getfield 19, 3) := by decide +kernel
theorem dX8_keep_66 : decode cX8_keep 66 = .ok (.getfield 79, 3) := by decide +kernel
theorem dX8_keep_69 : decode cX8_keep 69 = .ok (.iload_n 1, 1) := by decide +kernel
theorem dX8_keep_70 : decode cX8_keep 70 = .ok (.aaload, 1) := by decide +kernel
theorem dX8_keep_71 : decode cX8_keep 71 = .ok (.getfield 213, 3) := by decide +kernel
theorem dX8_keep_74 : decode cX8_keep 74 = .ok (.iload_n 2, 1) := by decide +kernel
theorem dX8_keep_75 : decode cX8_keep 75 = .ok (.iload 6, 2) := by decide +kernel
theorem dX8_keep_77 : decode cX8_keep 77 = .ok (.iastore, 1) := by decide +kernel
theorem dX8_keep_78 : decode cX8_keep 78 = .ok (.aload_n 0, 1) := by decide +kernel
theorem dX8_keep_79 : decode cX8_keep 79 = .ok (.getfield 19, 3) := by decide +kernel
theorem dX8_keep_82 : decode cX8_keep 82 = .ok (.iload_n 3, 1) := by decide +kernel
theorem dX8_keep_83 : decode cX8_keep 83 = .ok (.iconst 0, 1) := by decide +kernel
theorem dX8_keep_84 : decode cX8_keep 84 = .ok (.invokevirtual 198, 3) := by decide +kernel
theorem dX8_keep_87 : decode cX8_keep 87 = .ok (.aload_n 0, 1) := by decide +kernel
theorem dX8_keep_88 : decode cX8_keep 88 = .ok (.getfield 19, 3) := by decide +kernel
theorem dX8_keep_91 : decode cX8_keep 91 = .ok (.getfield 79, 3) := by decide +kernel
theorem dX8_keep_94 : decode cX8_keep 94 = .ok (.iload_n 1, 1) := by decide +kernel
theorem dX8_keep_95 : decode cX8_keep 95 = .ok (.aaload, 1) := by decide +kernel
theorem dX8_keep_96 : decode cX8_keep 96 = .ok (.getfield 103, 3) := by decide +kernel
theorem dX8_keep_99 : decode cX8_keep 99 = .ok (.iload 5, 2) := by decide +kernel
theorem dX8_keep_101 : decode cX8_keep 101 = .ok (.if_icmp .le 21, 3) := by decide +kernel
theorem dX8_keep_104 : decode cX8_keep 104 = .ok (.aload_n 0, 1) := by decide +kernel
theorem dX8_keep_105 : decode cX8_keep 105 = .ok (.getfield 19, 3) := by decide +kernel
theorem dX8_keep_108 : decode cX8_keep 108 = .ok (.getfield 79, 3) := by decide +kernel
theorem dX8_keep_111 : decode cX8_keep 111 = .ok (.iload_n 1, 1) := by decide +kernel
theorem dX8_keep_112 : decode cX8_keep 112 = .ok (.aaload, 1) := by decide +kernel
theorem dX8_keep_113 : decode cX8_keep 113 = .ok (.getfield 103, 3) := by decide +kernel
theorem dX8_keep_116 : decode cX8_keep 116 = .ok (.istore 5, 2) := by decide +kernel
theorem dX8_keep_118 : decode cX8_keep 118 = .ok (.iload 6, 2) := by decide +kernel
theorem dX8_keep_120 : decode cX8_keep 120 = .ok (.istore 4, 2) := by decide +kernel
theorem dX8_keep_122 : decode cX8_keep 122 = .ok (.iinc 6 1, 3) := by decide +kernel
theorem dX8_keep_125 : decode cX8_keep 125 = .ok (.goto (-81), 3) := by decide +kernel
theorem dX8_keep_128 : decode cX8_keep 128 = .ok (.iload 4, 2) := by decide +kernel
theorem dX8_keep_130 : decode cX8_keep 130 = .ok (.ireturn, 1) := by decide +kernel
theorem dX8_range_0 : decode cX8_range 0 = .ok (.aload_n 0, 1) := by decide +kernel
theorem dX8_range_1 : decode cX8_range 1 = .ok (.getfield 10, 3) := by decide +kernel
theorem dX8_range_4 : decode cX8_range 4 = .ok (.iload_n 1, 1) := by decide +kernel
theorem dX8_range_5 : decode cX8_range 5 = .ok (.invokevirtual 89, 3) := by decide +kernel
theorem dX8_range_8 : decode cX8_range 8 = .ok (.ifCond .eq 12, 3) := by decide +kernel
theorem dX8_range_11 : decode cX8_range 11 = .ok (.iload_n 2, 1) := by decide +kernel
theorem dX8_range_12 : decode cX8_range 12 = .ok (.iconst 1, 1) := by decide +kernel
theorem dX8_range_13 : decode cX8_range 13 = .ok (.iconst 5, 1) := by decide +kernel
theorem dX8_range_14 : decode cX8_range 14 = .ok (.invokestatic 58, 3) := by decide +kernel
theorem dX8_range_17 : decode cX8_range 17 = .ok (.ifCond .ne 9, 3) := by decide +kernel
theorem dX8_range_20 : decode cX8_range 20 = .ok (.aload_n 0, 1) := by decide +kernel
theorem dX8_range_21 : decode cX8_range 21 = .ok (.iconst 1, 1) := by decide +kernel
theorem dX8_range_22 : decode cX8_range 22 = .ok (.invokevirtual 62, 3) := by decide +kernel
theorem dX8_range_25 : decode cX8_range 25 = .ok (.ireturn, 1) := by decide +kernel
theorem dX8_range_26 : decode cX8_range 26 = .ok (.iconst 0, 1) := by decide +kernel
theorem dX8_range_27 : decode cX8_range 27 = .ok (.istore_n 3, 1) := by decide +kernel
theorem dX8_range_28 : decode cX8_range 28 = .ok (.ldc 212, 2) := by decide +kernel
theorem dX8_range_30 : decode cX8_range 30 = .ok (.istore 4, 2) := by decide +kernel
theorem dX8_range_32 : decode cX8_range 32 = .ok (.iconst 0, 1) := by decide +kernel
theorem dX8_range_33 : decode cX8_range 33 = .ok (.istore 5, 2) := by decide +kernel
theorem dX8_range_35 : decode cX8_range 35 = .ok (.iload 5, 2) := by decide +kernel
theorem dX8_range_37 : decode cX8_range 37 = .ok (.bipush 63, 2) := by decide +kernel
theorem dX8_range_39 : decode cX8_range 39 = .ok (.if_icmp .gt 102, 3) := by decide +kernel
theorem dX8_range_42 : decode cX8_range 42 = .ok (.aload_n 0, 1) := by decide +kernel
theorem dX8_range_43 : decode cX8_range 43 = .ok (.getfield 19, 3) := by decide +kernel
theorem dX8_range_46 : decode cX8_range 46 = .ok (.aload_n 0, 1) := by decide +kernel
theorem dX8_range_47 : decode cX8_range 47 = .ok (.getfield 10, 3) := by decide +kernel
theorem dX8_range_50 : decode cX8_range 50 = .ok (.invokevirtual 208, 3) := by decide +kernel
theorem dX8_range_53 : decode cX8_range 53 = .ok (.aload_n 0, 1) := by decide +kernel
theorem dX8_range_54 : decode cX8_range 54 = .ok (.getfield 19, 3) := by decide +kernel
theorem dX8_range_57 : decode cX8_range 57 = .ok (.getfield 79, 3) := by decide +kernel
theorem dX8_range_60 : decode cX8_range 60 = .ok (.iload_n 1, 1) := by decide +kernel
theorem dX8_range_61 : decode cX8_range 61 = .ok (.aaload, 1) := by decide +kernel
theorem dX8_range_62 : decode cX8_range 62 = .ok (.iload 5, 2) := by decide +kernel
theorem dX8_range_64 : decode cX8_range 64 = .ok (.invokevirtual 216, 3) := by decide +kernel
theorem dX8_range_67 : decode cX8_range 67 = .ok (.aload_n 0, 1) := by decide +kernel
theorem dX8_range_68 : decode cX8_range 68 = .ok (.getfield 19, 3) := by decide +kernel
theorem dX8_range_71 : decode cX8_range 71 = .ok (.iload_n 2, 1) := by decide +kernel
theorem dX8_range_72 : decode cX8_range 72 = .ok (.iconst 0, 1) := by decide +kernel
theorem dX8_range_73 : decode cX8_range 73 = .ok (.invokevirtual 198, 3) := by decide +kernel
theorem dX8_range_76 : decode cX8_range 76 = .ok (.aload_n 0, 1) := by decide +kernel
theorem dX8_range_77 : decode cX8_range 77 = .ok (.getfield 19, 3) := by decide +kernel
theorem dX8_range_80 : decode cX8_range 80 = .ok (.getfield 79, 3) := by decide +kernel
theorem dX8_range_83 : decode cX8_range 83 = .ok (.iload_n 1, 1) := by decide +kernel
theorem dX8_range_84 : decode cX8_range 84 = .ok (.aaload, 1) := by decide +kernel
theorem dX8_range_85 : decode cX8_range 85 = .ok (.getfield 103, 3) := by decide +kernel
theorem dX8_range_88 : decode cX8_range 88 = .ok (.istore 6, 2) := by decide +kernel
theorem dX8_range_90 : decode cX8_range 90 = .ok (.iload 5, 2) := by decide +kernel
theorem dX8_range_92 : decode cX8_range 92 = .ok (.invokestatic 220, 3) := by decide +kernel
theorem dX8_range_95 : decode cX8_range 95 = .ok (.iload_n 3, 1) := by decide +kernel
theorem dX8_range_96 : decode cX8_range 96 = .ok (.invokestatic 220, 3) := by decide +kernel
theorem dX8_range_99 : decode cX8_range 99 = .ok (.if_icmp .ge 7, 3) := by decide +kernel
theorem dX8_range_102 : decode cX8_range 102 = .ok (.iconst 1, 1) := by decide +kernel
theorem dX8_range_103 : decode cX8_range 103 = .ok (.goto 4, 3) := by decide +kernel
theorem dX8_range_106 : decode cX8_range 106 = .ok (.iconst 0, 1) := by decide +kernel
theorem dX8_range_107 : decode cX8_range 107 = .ok (.istore 7, 2) := by decide +kernel
theorem dX8_range_109 : decode cX8_range 109 = .ok (.iload 6, 2) := by decide +kernel
theorem dX8_range_111 : decode cX8_range 111 = .ok (.iload 4, 2) := by decide +kernel
theorem dX8_range_113 : decode cX8_range 113 = .ok (.if_icmp .gt 15, 3) := by decide +kernel
theorem dX8_range_116 : decode cX8_range 116 = .ok (.iload 6, 2) := by decide +kernel
theorem dX8_range_118 : decode cX8_range 118 = .ok (.iload 4, 2) := by decide +kernel
theorem dX8_range_120 : decode cX8_range 120 = .ok (.if_icmp .ne 15, 3) := by decide +kernel
theorem dX8_range_123 : decode cX8_range 123 = .ok (.iload 7, 2) := by decide +kernel
theorem dX8_range_125 : decode cX8_range 125 = .ok (.ifCond .eq 10, 3) := by decide +kernel
theorem dX8_range_128 : decode cX8_range 128 = .ok (.iload 6, 2) := by decide +kernel
theorem dX8_range_130 : decode cX8_range 130 = .ok (.istore 4, 2) := by decide +kernel
theorem dX8_range_132 : decode cX8_range 132 = .ok (.iload 5, 2) := by decide +kernel
theorem dX8_range_134 : decode cX8_range 134 = .ok (.istore_n 3, 1) := by decide +kernel
theorem dX8_range_135 : decode cX8_range 135 = .ok (.iinc 5 1, 3) := by decide +kernel
theorem dX8_range_138 : decode cX8_range 138 = .ok (.goto (-103), 3) := by decide +kernel
theorem dX8_range_141 : decode cX8_range 141 = .ok (.iload_n 3, 1) := by decide +kernel
theorem dX8_range_142 : decode cX8_range 142 = .ok (.ireturn, 1) := by decide +kernel
theorem dX8_turn_0 : decode cX8_turn 0 = .ok (.aload_n 0, 1) := by decide +kernel
theorem dX8_turn_1 : decode cX8_turn 1 = .ok (.getfield 10, 3) := by decide +kernel
theorem dX8_turn_4 : decode cX8_turn 4 = .ok (.iload_n 1, 1) := by decide +kernel
theorem dX8_turn_5 : decode cX8_turn 5 = .ok (.invokevirtual 89, 3) := by decide +kernel
theorem dX8_turn_8 : decode cX8_turn 8 = .ok (.ifCond .eq 13, 3) := by decide +kernel
theorem dX8_turn_11 : decode cX8_turn 11 = .ok (.iload_n 2, 1) := by decide +kernel
theorem dX8_turn_12 : decode cX8_turn 12 = .ok (.iconst 1, 1) := by decide +kernel
theorem dX8_turn_13 : decode cX8_turn 13 = .ok (.bipush 20, 2) := by decide +kernel
theorem dX8_turn_15 : decode cX8_turn 15 = .ok (.invokestatic 58, 3) := by decide +kernel
theorem dX8_turn_18 : decode cX8_turn 18 = .ok (.ifCond .ne 9, 3) := by decide +kernel
theorem dX8_turn_21 : decode cX8_turn 21 = .ok (.aload_n 0, 1) := by decide +kernel
theorem dX8_turn_22 : decode cX8_turn 22 = .ok (.iconst 1, 1) := by decide +kernel
theorem dX8_turn_23 : decode cX8_turn 23 = .ok (.invokevirtual 62, 3) := by decide +kernel
theorem dX8_turn_26 : decode cX8_turn 26 = .ok (.ireturn, 1) := by decide +kernel
theorem dX8_turn_27 : decode cX8_turn 27 = .ok (.iconst 0, 1) := by decide +kernel
theorem dX8_turn_28 : decode cX8_turn 28 = .ok (.istore_n 3, 1) := by decide +kernel
theorem dX8_turn_29 : decode cX8_turn 29 = .ok (.ldc 212, 2) := by decide +kernel
theorem dX8_turn_31 : decode cX8_turn 31 = .ok (.istore 4, 2) := by decide +kernel
theorem dX8_turn_33 : decode cX8_turn 33 = .ok (.iconst 0, 1) := by decide +kernel
theorem dX8_turn_34 : decode cX8_turn 34 = .ok (.istore 5, 2) := by decide +kernel
theorem dX8_turn_36 : decode cX8_turn 36 = .ok (.iload 5, 2) := by decide +kernel
theorem dX8_turn_38 : decode cX8_turn 38 = .ok (.aload_n 0, 1) := by decide +kernel
theorem dX8_turn_39 : decode cX8_turn 39 = .ok (.getfield 10, 3) := by decide +kernel
theorem dX8_turn_42 : decode cX8_turn 42 = .ok (.getfield 76, 3) := by decide +kernel
theorem dX8_turn_45 : decode cX8_turn 45 = .ok (.if_icmp .ge 81, 3) := by decide +kernel
theorem dX8_turn_48 : decode cX8_turn 48 = .ok (.aload_n 0, 1) := by decide +kernel
theorem dX8_turn_49 : decode cX8_turn 49 = .ok (.getfield 19, 3) := by decide +kernel
theorem dX8_turn_52 : decode cX8_turn 52 = .ok (.aload_n 0, 1) := by decide +kernel
theorem dX8_turn_53 : decode cX8_turn 53 = .ok (.getfield 10, 3) := by decide +kernel
theorem dX8_turn_56 : decode cX8_turn 56 = .ok (.invokevirtual 208, 3) := by decide +kernel
theorem dX8_turn_59 : decode cX8_turn 59 = .ok (.aload_n 0, 1) := by decide +kernel
theorem dX8_turn_60 : decode cX8_turn 60 = .ok (.getfield 19, 3) := by decide +kernel
theorem dX8_turn_63 : decode cX8_turn 63 = .ok (.aload_n 0, 1) := by decide +kernel
theorem dX8_turn_64 : decode cX8_turn 64 = .ok (.getfield 10, 3) := by decide +kernel
theorem dX8_turn_67 : decode cX8_turn 67 = .ok (.iload 5, 2) := by decide +kernel
theorem dX8_turn_69 : decode cX8_turn 69 = .ok (.invokevirtual 225, 3) := by decide +kernel
theorem dX8_turn_72 : decode cX8_turn 72 = .ok (.aload_n 0, 1) := by decide +kernel
theorem dX8_turn_73 : decode cX8_turn 73 = .ok (.getfield 19, 3) := by decide +kernel
theorem dX8_turn_76 : decode cX8_turn 76 = .ok (.iload_n 2, 1) := by decide +kernel
theorem dX8_turn_77 : decode cX8_turn 77 = .ok (.iconst 0, 1) := by decide +kernel
theorem dX8_turn_78 : decode cX8_turn 78 = .ok (.invokevirtual 198, 3) := by decide +kernel
theorem dX8_turn_81 : decode cX8_turn 81 = .ok (.aload_n 0, 1) := by decide +kernel
theorem dX8_turn_82 : decode cX8_turn 82 = .ok (.getfield 19, 3) := by decide +kernel
theorem dX8_turn_85 : decode cX8_turn 85 = .ok (.getfield 79, 3) := by decide +kernel
theorem dX8_turn_88 : decode cX8_turn 88 = .ok (.iload_n 1, 1) := by decide +kernel
theorem dX8_turn_89 : decode cX8_turn 89 = .ok (.iload 5, 2) := by decide +kernel
theorem dX8_turn_91 : decode cX8_turn 91 = .ok (.iadd, 1) := by decide +kernel
theorem dX8_turn_92 : decode cX8_turn 92 = .ok (.aload_n 0, 1) := by decide +kernel
theorem dX8_turn_93 : decode cX8_turn 93 = .ok (.getfield 10, 3) := by decide +kernel
theorem dX8_turn_96 : decode cX8_turn 96 = .ok (.getfield 76, 3) := by decide +kernel
theorem dX8_turn_99 : decode cX8_turn 99 = .ok (.irem, 1) := by decide +kernel
theorem dX8_turn_100 : decode cX8_turn 100 = .ok (.aaload, 1) := by decide +kernel
theorem dX8_turn_101 : decode cX8_turn 101 = .ok (.getfield 103, 3) := by decide +kernel
theorem dX8_turn_104 : decode cX8_turn 104 = .ok (.istore 6, 2) := by decide +kernel
theorem dX8_turn_106 : decode cX8_turn 106 = .ok (.iload 6, 2) := by decide +kernel
theorem dX8_turn_108 : decode cX8_turn 108 = .ok (.iload 4, 2) := by decide +kernel
theorem dX8_turn_110 : decode cX8_turn 110 = .ok (.if_icmp .le 10, 3) := by decide +kernel
theorem dX8_turn_113 : decode cX8_turn 113 = .ok (.iload 6, 2) := by decide +kernel
theorem dX8_turn_115 : decode cX8_turn 115 = .ok (.istore 4, 2) := by decide +kernel
theorem dX8_turn_117 : decode cX8_turn 117 = .ok (.iload 5, 2) := by decide +kernel
theorem dX8_turn_119 : decode cX8_turn 119 = .ok (.istore_n 3, 1) := by decide +kernel
theorem dX8_turn_120 : decode cX8_turn 120 = .ok (.iinc 5 1, 3) := by decide +kernel
theorem dX8_turn_123 : decode cX8_turn 123 = .ok (.goto (-87), 3) := by decide +kernel
theorem dX8_turn_126 : decode cX8_turn 126 = .ok (.iload_n 3, 1) := by decide +kernel
theorem dX8_turn_127 : decode cX8_turn 127 = .ok (.ireturn, 1) := by decide +kernel
theorem dX8_out_0 : decode cX8_out 0 = .ok (.aload_n 0, 1) := by decide +kernel
theorem dX8_out_1 : decode cX8_out 1 = .ok (.getfield 10, 3) := by decide +kernel
theorem dX8_out_4 : decode cX8_out 4 = .ok (.iload_n 1, 1) := by decide +kernel
theorem dX8_out_5 : decode cX8_out 5 = .ok (.invokevirtual 89, 3) := by decide +kernel
theorem dX8_out_8 : decode cX8_out 8 = .ok (.ifCond .eq 10, 3) := by decide +kernel
theorem dX8_out_11 : decode cX8_out 11 = .ok (.iload_n 2, 1) := by decide +kernel
theorem dX8_out_12 : decode cX8_out 12 = .ok (.invokestatic 54, 3) := by decide +kernel
theorem dX8_out_15 : decode cX8_out 15 = .ok (.ifCond .ne 9, 3) := by decide +kernel
theorem dX8_out_18 : decode cX8_out 18 = .ok (.aload_n 0, 1) := by decide +kernel
theorem dX8_out_19 : decode cX8_out 19 = .ok (.iconst 1, 1) := by decide +kernel
theorem dX8_out_20 : decode cX8_out 20 = .ok (.invokevirtual 62, 3) := by decide +kernel
theorem dX8_out_23 : decode cX8_out 23 = .ok (.ireturn, 1) := by decide +kernel
theorem dX8_out_24 : decode cX8_out 24 = .ok (.aload_n 0, 1) := by decide +kernel
theorem dX8_out_25 : decode cX8_out 25 = .ok (.getfield 10, 3) := by decide +kernel
theorem dX8_out_28 : decode cX8_out 28 = .ok (.iload_n 1, 1) := by decide +kernel
theorem dX8_out_29 : decode cX8_out 29 = .ok (.invokevirtual 229, 3) := by decide +kernel
theorem dX8_out_32 : decode cX8_out 32 = .ok (.istore_n 3, 1) := by decide +kernel
theorem dX8_out_33 : decode cX8_out 33 = .ok (.iload_n 3, 1) := by decide +kernel
theorem dX8_out_34 : decode cX8_out 34 = .ok (.ifCond .lt 25, 3) := by decide +kernel
theorem dX8_out_37 : decode cX8_out 37 = .ok (.iload_n 3, 1) := by decide +kernel
theorem dX8_out_38 : decode cX8_out 38 = .ok (.iload_n 1, 1) := by decide +kernel
theorem dX8_out_39 : decode cX8_out 39 = .ok (.if_icmp .eq 20, 3) := by decide +kernel
theorem dX8_out_42 : decode cX8_out 42 = .ok (.aload_n 0, 1) := by decide +kernel
theorem dX8_out_43 : decode cX8_out 43 = .ok (.getfield 10, 3) := by decide +kernel
theorem dX8_out_46 : decode cX8_out 46 = .ok (.getfield 79, 3) := by decide +kernel
theorem dX8_out_49 : decode cX8_out 49 = .ok (.iload_n 3, 1) := by decide +kernel
theorem dX8_out_50 : decode cX8_out 50 = .ok (.aaload, 1) := by decide +kernel
theorem dX8_out_51 : decode cX8_out 51 = .ok (.getfield 232, 3) := by decide +kernel
theorem dX8_out_54 : decode cX8_out 54 = .ok (.iload_n 2, 1) := by decide +kernel
theorem dX8_out_55 : decode cX8_out 55 = .ok (.iaload, 1) := by decide +kernel
theorem dX8_out_56 : decode cX8_out 56 = .ok (.ifCond .ne 9, 3) := by decide +kernel
theorem dX8_out_59 : decode cX8_out 59 = .ok (.aload_n 0, 1) := by decide +kernel
theorem dX8_out_60 : decode cX8_out 60 = .ok (.iconst 3, 1) := by decide +kernel
theorem dX8_out_61 : decode cX8_out 61 = .ok (.invokevirtual 62, 3) := by decide +kernel
theorem dX8_out_64 : decode cX8_out 64 = .ok (.ireturn, 1) := by decide +kernel
theorem dX8_out_65 : decode cX8_out 65 = .ok (.aload_n 0, 1) := by decide +kernel
theorem dX8_out_66 : decode cX8_out 66 = .ok (.getfield 19, 3) := by decide +kernel
theorem dX8_out_69 : decode cX8_out 69 = .ok (.aload_n 0, 1) := by decide +kernel
theorem dX8_out_70 : decode cX8_out 70 = .ok (.getfield 10, 3) := by decide +kernel
theorem dX8_out_73 : decode cX8_out 73 = .ok (.invokevirtual 208, 3) := by decide +kernel
theorem dX8_out_76 : decode cX8_out 76 = .ok (.aload_n 0, 1) := by decide +kernel
theorem dX8_out_77 : decode cX8_out 77 = .ok (.getfield 19, 3) := by decide +kernel
theorem dX8_out_80 : decode cX8_out 80 = .ok (.invokevirtual 235, 3) := by decide +kernel
theorem dX8_out_83 : decode cX8_out 83 = .ok (.aload_n 0, 1) := by decide +kernel
theorem dX8_out_84 : decode cX8_out 84 = .ok (.getfield 19, 3) := by decide +kernel
theorem dX8_out_87 : decode cX8_out 87 = .ok (.getfield 79, 3) := by decide +kernel
theorem dX8_out_90 : decode cX8_out 90 = .ok (.iload_n 1, 1) := by decide +kernel
theorem dX8_out_91 : decode cX8_out 91 = .ok (.aaload, 1) := by decide +kernel
theorem dX8_out_92 : decode cX8_out 92 = .ok (.getfield 103, 3) := by decide +kernel
theorem dX8_out_95 : decode cX8_out 95 = .ok (.istore 4, 2) := by decide +kernel
theorem dX8_out_97 : decode cX8_out 97 = .ok (.aload_n 0, 1) := by decide +kernel
theorem dX8_out_98 : decode cX8_out 98 = .ok (.getfield 19, 3) := by decide +kernel
theorem dX8_out_101 : decode cX8_out 101 = .ok (.aload_n 0, 1) := by decide +kernel
theorem dX8_out_102 : decode cX8_out 102 = .ok (.getfield 10, 3) := by decide +kernel
theorem dX8_out_105 : decode cX8_out 105 = .ok (.invokevirtual 208, 3) := by decide +kernel
theorem dX8_out_108 : decode cX8_out 108 = .ok (.aload_n 0, 1) := by decide +kernel
theorem dX8_out_109 : decode cX8_out 109 = .ok (.getfield 19, 3) := by decide +kernel
theorem dX8_out_112 : decode cX8_out 112 = .ok (.iload_n 1, 1) := by decide +kernel
theorem dX8_out_113 : decode cX8_out 113 = .ok (.iload_n 3, 1) := by decide +kernel
theorem dX8_out_114 : decode cX8_out 114 = .ok (.iload_n 2, 1) := by decide +kernel
theorem dX8_out_115 : decode cX8_out 115 = .ok (.invokevirtual 238, 3) := by decide +kernel
theorem dX8_out_118 : decode cX8_out 118 = .ok (.aload_n 0, 1) := by decide +kernel
theorem dX8_out_119 : decode cX8_out 119 = .ok (.getfield 19, 3) := by decide +kernel
theorem dX8_out_122 : decode cX8_out 122 = .ok (.invokevirtual 235, 3) := by decide +kernel
theorem dX8_out_125 : decode cX8_out 125 = .ok (.aload_n 0, 1) := by decide +kernel
theorem dX8_out_126 : decode cX8_out 126 = .ok (.getfield 19, 3) := by decide +kernel
theorem dX8_out_129 : decode cX8_out 129 = .ok (.getfield 79, 3) := by decide +kernel
theorem dX8_out_132 : decode cX8_out 132 = .ok (.iload_n 1, 1) := by decide +kernel
theorem dX8_out_133 : decode cX8_out 133 = .ok (.aaload, 1) := by decide +kernel
theorem dX8_out_134 : decode cX8_out 134 = .ok (.getfield 103, 3) := by decide +kernel
theorem dX8_out_137 : decode cX8_out 137 = .ok (.iload 4, 2) := by decide +kernel
theorem dX8_out_139 : decode cX8_out 139 = .ok (.isub, 1) := by decide +kernel
theorem dX8_out_140 : decode cX8_out 140 = .ok (.ireturn, 1) := by decide +kernel
theorem dX8_joined_0 : decode cX8_joined 0 = .ok (.aload_n 0, 1) := by decide +kernel
theorem dX8_joined_1 : decode cX8_joined 1 = .ok (.getfield 10, 3) := by decide +kernel
theorem dX8_joined_4 : decode cX8_joined 4 = .ok (.iload_n 1, 1) := by decide +kernel
theorem dX8_joined_5 : decode cX8_joined 5 = .ok (.invokevirtual 89, 3) := by decide +kernel
theorem dX8_joined_8 : decode cX8_joined 8 = .ok (.ifCond .eq 26, 3) := by decide +kernel
theorem dX8_joined_11 : decode cX8_joined 11 = .ok (.aload_n 0, 1) := by decide +kernel
theorem dX8_joined_12 : decode cX8_joined 12 = .ok (.getfield 10, 3) := by decide +kernel
theorem dX8_joined_15 : decode cX8_joined 15 = .ok (.iload_n 1, 1) := by decide +kernel
theorem dX8_joined_16 : decode cX8_joined 16 = .ok (.iconst 1, 1) := by decide +kernel
theorem dX8_joined_17 : decode cX8_joined 17 = .ok (.iadd, 1) := by decide +kernel
theorem dX8_joined_18 : decode cX8_joined 18 = .ok (.invokevirtual 89, 3) := by decide +kernel
theorem dX8_joined_21 : decode cX8_joined 21 = .ok (.ifCond .eq 13, 3) := by decide +kernel
theorem dX8_joined_24 : decode cX8_joined 24 = .ok (.iload_n 2, 1) := by decide +kernel
theorem dX8_joined_25 : decode cX8_joined 25 = .ok (.iconst 1, 1) := by decide +kernel
theorem dX8_joined_26 : decode cX8_joined 26 = .ok (.bipush 20, 2) := by decide +kernel
theorem dX8_joined_28 : decode cX8_joined 28 = .ok (.invokestatic 58, 3) := by decide +kernel
theorem dX8_joined_31 : decode cX8_joined 31 = .ok (.ifCond .ne 9, 3) := by decide +kernel
theorem dX8_joined_34 : decode cX8_joined 34 = .ok (.aload_n 0, 1) := by decide +kernel
theorem dX8_joined_35 : decode cX8_joined 35 = .ok (.iconst 1, 1) := by decide +kernel
theorem dX8_joined_36 : decode cX8_joined 36 = .ok (.invokevirtual 62, 3) := by decide +kernel
theorem dX8_joined_39 : decode cX8_joined 39 = .ok (.ireturn, 1) := by decide +kernel
theorem dX8_joined_40 : decode cX8_joined 40 = .ok (.aload_n 0, 1) := by decide +kernel
theorem dX8_joined_41 : decode cX8_joined 41 = .ok (.getfield 19, 3) := by decide +kernel
theorem dX8_joined_44 : decode cX8_joined 44 = .ok (.aload_n 0, 1) := by decide +kernel
theorem dX8_joined_45 : decode cX8_joined 45 = .ok (.getfield 10, 3) := by decide +kernel
theorem dX8_joined_48 : decode cX8_joined 48 = .ok (.invokevirtual 208, 3) := by decide +kernel
theorem dX8_joined_51 : decode cX8_joined 51 = .ok (.aload_n 0, 1) := by decide +kernel
theorem dX8_joined_52 : decode cX8_joined 52 = .ok (.getfield 19, 3) := by decide +kernel
theorem dX8_joined_55 : decode cX8_joined 55 = .ok (.iload_n 2, 1) := by decide +kernel
theorem dX8_joined_56 : decode cX8_joined 56 = .ok (.iconst 0, 1) := by decide +kernel
theorem dX8_joined_57 : decode cX8_joined 57 = .ok (.invokevirtual 198, 3) := by decide +kernel
theorem dX8_joined_60 : decode cX8_joined 60 = .ok (.aload_n 0, 1) := by decide +kernel
theorem dX8_joined_61 : decode cX8_joined 61 = .ok (.getfield 19, 3) := by decide +kernel
theorem dX8_joined_64 : decode cX8_joined 64 = .ok (.getfield 79, 3) := by decide +kernel
theorem dX8_joined_67 : decode cX8_joined 67 = .ok (.iload_n 1, 1) := by decide +kernel
theorem dX8_joined_68 : decode cX8_joined 68 = .ok (.aaload, 1) := by decide +kernel
theorem dX8_joined_69 : decode cX8_joined 69 = .ok (.getfield 103, 3) := by decide +kernel
theorem dX8_joined_72 : decode cX8_joined 72 = .ok (.aload_n 0, 1) := by decide +kernel
theorem dX8_joined_73 : decode cX8_joined 73 = .ok (.getfield 19, 3) := by decide +kernel
theorem dX8_joined_76 : decode cX8_joined 76 = .ok (.getfield 79, 3) := by decide +kernel
theorem dX8_joined_79 : decode cX8_joined 79 = .ok (.iload_n 1, 1) := by decide +kernel
theorem dX8_joined_80 : decode cX8_joined 80 = .ok (.iconst 1, 1) := by decide +kernel
theorem dX8_joined_81 : decode cX8_joined 81 = .ok (.iadd, 1) := by decide +kernel
theorem dX8_joined_82 : decode cX8_joined 82 = .ok (.aaload, 1) := by decide +kernel
theorem dX8_joined_83 : decode cX8_joined 83 = .ok (.getfield 103, 3) := by decide +kernel
theorem dX8_joined_86 : decode cX8_joined 86 = .ok (.iadd, 1) := by decide +kernel
theorem dX8_joined_87 : decode cX8_joined 87 = .ok (.istore_n 3, 1) := by decide +kernel
theorem dX8_joined_88 : decode cX8_joined 88 = .ok (.aload_n 0, 1) := by decide +kernel
theorem dX8_joined_89 : decode cX8_joined 89 = .ok (.getfield 19, 3) := by decide +kernel
theorem dX8_joined_92 : decode cX8_joined 92 = .ok (.aload_n 0, 1) := by decide +kernel
theorem dX8_joined_93 : decode cX8_joined 93 = .ok (.getfield 10, 3) := by decide +kernel
theorem dX8_joined_96 : decode cX8_joined 96 = .ok (.invokevirtual 208, 3) := by decide +kernel
theorem dX8_joined_99 : decode cX8_joined 99 = .ok (.aload_n 0, 1) := by decide +kernel
theorem dX8_joined_100 : decode cX8_joined 100 = .ok (.getfield 19, 3) := by decide +kernel
theorem dX8_joined_103 : decode cX8_joined 103 = .ok (.iload_n 1, 1) := by decide +kernel
theorem dX8_joined_104 : decode cX8_joined 104 = .ok (.invokevirtual 241, 3) := by decide +kernel
theorem dX8_joined_107 : decode cX8_joined 107 = .ok (.aload_n 0, 1) := by decide +kernel
theorem dX8_joined_108 : decode cX8_joined 108 = .ok (.getfield 19, 3) := by decide +kernel
theorem dX8_joined_111 : decode cX8_joined 111 = .ok (.iload_n 2, 1) := by decide +kernel
theorem dX8_joined_112 : decode cX8_joined 112 = .ok (.iconst 0, 1) := by decide +kernel
theorem dX8_joined_113 : decode cX8_joined 113 = .ok (.invokevirtual 198, 3) := by decide +kernel
theorem dX8_joined_116 : decode cX8_joined 116 = .ok (.aload_n 0, 1) := by decide +kernel
theorem dX8_joined_117 : decode cX8_joined 117 = .ok (.getfield 19, 3) := by decide +kernel
theorem dX8_joined_120 : decode cX8_joined 120 = .ok (.getfield 79, 3) := by decide +kernel
theorem dX8_joined_123 : decode cX8_joined 123 = .ok (.iload_n 1, 1) := by decide +kernel
theorem dX8_joined_124 : decode cX8_joined 124 = .ok (.aaload, 1) := by decide +kernel
theorem dX8_joined_125 : decode cX8_joined 125 = .ok (.getfield 103, 3) := by decide +kernel
theorem dX8_joined_128 : decode cX8_joined 128 = .ok (.iload_n 3, 1) := by decide +kernel
theorem dX8_joined_129 : decode cX8_joined 129 = .ok (.isub, 1) := by decide +kernel
theorem dX8_joined_130 : decode cX8_joined 130 = .ok (.ireturn, 1) := by decide +kernel
theorem dX8_walk_0 : decode cX8_walk 0 = .ok (.aload_n 0, 1) := by decide +kernel
theorem dX8_walk_1 : decode cX8_walk 1 = .ok (.getfield 10, 3) := by decide +kernel
theorem dX8_walk_4 : decode cX8_walk 4 = .ok (.iload_n 1, 1) := by decide +kernel
theorem dX8_walk_5 : decode cX8_walk 5 = .ok (.invokevirtual 128, 3) := by decide +kernel
theorem dX8_walk_8 : decode cX8_walk 8 = .ok (.ifCond .ne 9, 3) := by decide +kernel
theorem dX8_walk_11 : decode cX8_walk 11 = .ok (.aload_n 0, 1) := by decide +kernel
theorem dX8_walk_12 : decode cX8_walk 12 = .ok (.iconst 1, 1) := by decide +kernel
theorem dX8_walk_13 : decode cX8_walk 13 = .ok (.invokevirtual 62, 3) := by decide +kernel
theorem dX8_walk_16 : decode cX8_walk 16 = .ok (.ireturn, 1) := by decide +kernel
theorem dX8_walk_17 : decode cX8_walk 17 = .ok (.aload_n 0, 1) := by decide +kernel
theorem dX8_walk_18 : decode cX8_walk 18 = .ok (.getfield 10, 3) := by decide +kernel
theorem dX8_walk_21 : decode cX8_walk 21 = .ok (.getfield 131, 3) := by decide +kernel
theorem dX8_walk_24 : decode cX8_walk 24 = .ok (.iload_n 1, 1) := by decide +kernel
theorem dX8_walk_25 : decode cX8_walk 25 = .ok (.aaload, 1) := by decide +kernel
theorem dX8_walk_26 : decode cX8_walk 26 = .ok (.astore_n 2, 1) := by decide +kernel
theorem dX8_walk_27 : decode cX8_walk 27 = .ok (.aload_n 2, 1) := by decide +kernel
theorem dX8_walk_28 : decode cX8_walk 28 = .ok (.getfield 135, 3) := by decide +kernel
theorem dX8_walk_31 : decode cX8_walk 31 = .ok (.istore_n 3, 1) := by decide +kernel
theorem dX8_walk_32 : decode cX8_walk 32 = .ok (.iconst 0, 1) := by decide +kernel
theorem dX8_walk_33 : decode cX8_walk 33 = .ok (.istore 4, 2) := by decide +kernel
theorem dX8_walk_35 : decode cX8_walk 35 = .ok (.iload 4, 2) := by decide +kernel
theorem dX8_walk_37 : decode cX8_walk 37 = .ok (.aload_n 0, 1) := by decide +kernel
theorem dX8_walk_38 : decode cX8_walk 38 = .ok (.getfield 10, 3) := by decide +kernel
theorem dX8_walk_41 : decode cX8_walk 41 = .ok (.getfield 76, 3) := by decide +kernel
theorem dX8_walk_44 : decode cX8_walk 44 = .ok (.if_icmp .ge 47, 3) := by decide +kernel
theorem dX8_walk_47 : decode cX8_walk 47 = .ok (.iload_n 3, 1) := by decide +kernel
theorem dX8_walk_48 : decode cX8_walk 48 = .ok (.ifCond .eq 43, 3) := by decide +kernel
theorem dX8_walk_51 : decode cX8_walk 51 = .ok (.iload_n 3, 1) := by decide +kernel
theorem dX8_walk_52 : decode cX8_walk 52 = .ok (.aload_n 0, 1) := by decide +kernel
theorem dX8_walk_53 : decode cX8_walk 53 = .ok (.getfield 10, 3) := by decide +kernel
theorem dX8_walk_56 : decode cX8_walk 56 = .ok (.aload_n 0, 1) := by decide +kernel
theorem dX8_walk_57 : decode cX8_walk 57 = .ok (.getfield 10, 3) := by decide +kernel
theorem dX8_walk_60 : decode cX8_walk 60 = .ok (.aload_n 2, 1) := by decide +kernel
theorem dX8_walk_61 : decode cX8_walk 61 = .ok (.getfield 143, 3) := by decide +kernel
theorem dX8_walk_64 : decode cX8_walk 64 = .ok (.iload 4, 2) := by decide +kernel
theorem dX8_walk_66 : decode cX8_walk 66 = .ok (.invokevirtual 244, 3) := by decide +kernel
theorem dX8_walk_69 : decode cX8_walk 69 = .ok (.invokevirtual 247, 3) := by decide +kernel
theorem dX8_walk_72 : decode cX8_walk 72 = .ok (.iconst (-1), 1) := by decide +kernel
theorem dX8_walk_73 : decode cX8_walk 73 = .ok (.ixor, 1) := by decide +kernel
theorem dX8_walk_74 : decode cX8_walk 74 = .ok (.iand, 1) := by decide +kernel
theorem dX8_walk_75 : decode cX8_walk 75 = .ok (.istore_n 3, 1) := by decide +kernel
theorem dX8_walk_76 : decode cX8_walk 76 = .ok (.iload_n 3, 1) := by decide +kernel
theorem dX8_walk_77 : decode cX8_walk 77 = .ok (.ifCond .ne 8, 3) := by decide +kernel
theorem dX8_walk_80 : decode cX8_walk 80 = .ok (.iload 4, 2) := by decide +kernel
theorem dX8_walk_82 : decode cX8_walk 82 = .ok (.iconst 1, 1) := by decide +kernel
theorem dX8_walk_83 : decode cX8_walk 83 = .ok (.iadd, 1) := by decide +kernel
theorem dX8_walk_84 : decode cX8_walk 84 = .ok (.ireturn, 1) := by decide +kernel
theorem dX8_walk_85 : decode cX8_walk 85 = .ok (.iinc 4 1, 3) := by decide +kernel
theorem dX8_walk_88 : decode cX8_walk 88 = .ok (.goto (-53), 3) := by decide +kernel
theorem dX8_walk_91 : decode cX8_walk 91 = .ok (.iload_n 3, 1) := by decide +kernel
theorem dX8_walk_92 : decode cX8_walk 92 = .ok (.ifCond .ne 7, 3) := by decide +kernel
theorem dX8_walk_95 : decode cX8_walk 95 = .ok (.iconst 0, 1) := by decide +kernel
theorem dX8_walk_96 : decode cX8_walk 96 = .ok (.goto 8, 3) := by decide +kernel
theorem dX8_walk_99 : decode cX8_walk 99 = .ok (.aload_n 0, 1) := by decide +kernel
theorem dX8_walk_100 : decode cX8_walk 100 = .ok (.iconst 2, 1) := by decide +kernel
theorem dX8_walk_101 : decode cX8_walk 101 = .ok (.invokevirtual 62, 3) := by decide +kernel
theorem dX8_walk_104 : decode cX8_walk 104 = .ok (.ireturn, 1) := by decide +kernel
theorem dX8_voice_0 : decode cX8_voice 0 = .ok (.aload_n 0, 1) := by decide +kernel
theorem dX8_voice_1 : decode cX8_voice 1 = .ok (.getfield 10, 3) := by decide +kernel
theorem dX8_voice_4 : decode cX8_voice 4 = .ok (.iload_n 1, 1) := by decide +kernel
theorem dX8_voice_5 : decode cX8_voice 5 = .ok (.invokevirtual 89, 3) := by decide +kernel
theorem dX8_voice_8 : decode cX8_voice 8 = .ok (.ifCond .eq 12, 3) := by decide +kernel
theorem dX8_voice_11 : decode cX8_voice 11 = .ok (.iload_n 2, 1) := by decide +kernel
theorem dX8_voice_12 : decode cX8_voice 12 = .ok (.iconst 0, 1) := by decide +kernel
theorem dX8_voice_13 : decode cX8_voice 13 = .ok (.iconst 3, 1) := by decide +kernel
theorem dX8_voice_14 : decode cX8_voice 14 = .ok (.invokestatic 58, 3) := by decide +kernel
theorem dX8_voice_17 : decode cX8_voice 17 = .ok (.ifCond .ne 9, 3) := by decide +kernel
theorem dX8_voice_20 : decode cX8_voice 20 = .ok (.aload_n 0, 1) := by decide +kernel
theorem dX8_voice_21 : decode cX8_voice 21 = .ok (.iconst 1, 1) := by decide +kernel
theorem dX8_voice_22 : decode cX8_voice 22 = .ok (.invokevirtual 62, 3) := by decide +kernel
theorem dX8_voice_25 : decode cX8_voice 25 = .ok (.ireturn, 1) := by decide +kernel
theorem dX8_voice_26 : decode cX8_voice 26 = .ok (.aload_n 0, 1) := by decide +kernel
theorem dX8_voice_27 : decode cX8_voice 27 = .ok (.getfield 38, 3) := by decide +kernel
theorem dX8_voice_30 : decode cX8_voice 30 = .ok (.aload_n 0, 1) := by decide +kernel
theorem dX8_voice_31 : decode cX8_voice 31 = .ok (.getfield 10, 3) := by decide +kernel
theorem dX8_voice_34 : decode cX8_voice 34 = .ok (.getfield 79, 3) := by decide +kernel
theorem dX8_voice_37 : decode cX8_voice 37 = .ok (.iload_n 1, 1) := by decide +kernel
theorem dX8_voice_38 : decode cX8_voice 38 = .ok (.aaload, 1) := by decide +kernel
theorem dX8_voice_39 : decode cX8_voice 39 = .ok (.iload_n 1, 1) := by decide +kernel
theorem dX8_voice_40 : decode cX8_voice 40 = .ok (.iload_n 2, 1) := by decide +kernel
theorem dX8_voice_41 : decode cX8_voice 41 = .ok (.iload_n 3, 1) := by decide +kernel
theorem dX8_voice_42 : decode cX8_voice 42 = .ok (.invokevirtual 250, 3) := by decide +kernel
theorem dX8_voice_45 : decode cX8_voice 45 = .ok (.istore 4, 2) := by decide +kernel
theorem dX8_voice_47 : decode cX8_voice 47 = .ok (.aload_n 0, 1) := by decide +kernel
theorem dX8_voice_48 : decode cX8_voice 48 = .ok (.getfield 38, 3) := by decide +kernel
theorem dX8_voice_51 : decode cX8_voice 51 = .ok (.getfield 254, 3) := by decide +kernel
theorem dX8_voice_54 : decode cX8_voice 54 = .ok (.ifCond .eq 12, 3) := by decide +kernel
theorem dX8_voice_57 : decode cX8_voice 57 = .ok (.aload_n 0, 1) := by decide +kernel
theorem dX8_voice_58 : decode cX8_voice 58 = .ok (.bipush 6, 2) := by decide +kernel
theorem dX8_voice_60 : decode cX8_voice 60 = .ok (.invokevirtual 62, 3) := by decide +kernel
theorem dX8_voice_63 : decode cX8_voice 63 = .ok (.goto 5, 3) := by decide +kernel
theorem dX8_voice_66 : decode cX8_voice 66 = .ok (.iload 4, 2) := by decide +kernel
theorem dX8_voice_68 : decode cX8_voice 68 = .ok (.ireturn, 1) := by decide +kernel
theorem dX8_body_0 : decode cX8_body 0 = .ok (.iload_n 1, 1) := by decide +kernel
theorem dX8_body_1 : decode cX8_body 1 = .ok (.iconst 0, 1) := by decide +kernel
theorem dX8_body_2 : decode cX8_body 2 = .ok (.aload_n 0, 1) := by decide +kernel
theorem dX8_body_3 : decode cX8_body 3 = .ok (.getfield 38, 3) := by decide +kernel
theorem dX8_body_6 : decode cX8_body 6 = .ok (.getfield 258, 3) := by decide +kernel
theorem dX8_body_9 : decode cX8_body 9 = .ok (.iconst 1, 1) := by decide +kernel
theorem dX8_body_10 : decode cX8_body 10 = .ok (.isub, 1) := by decide +kernel
theorem dX8_body_11 : decode cX8_body 11 = .ok (.invokestatic 58, 3) := by decide +kernel
theorem dX8_body_14 : decode cX8_body 14 = .ok (.ifCond .ne 9, 3) := by decide +kernel
theorem dX8_body_17 : decode cX8_body 17 = .ok (.aload_n 0, 1) := by decide +kernel
theorem dX8_body_18 : decode cX8_body 18 = .ok (.iconst 2, 1) := by decide +kernel
theorem dX8_body_19 : decode cX8_body 19 = .ok (.invokevirtual 62, 3) := by decide +kernel
theorem dX8_body_22 : decode cX8_body 22 = .ok (.ireturn, 1) := by decide +kernel
theorem dX8_body_23 : decode cX8_body 23 = .ok (.aload_n 0, 1) := by decide +kernel
theorem dX8_body_24 : decode cX8_body 24 = .ok (.getfield 38, 3) := by decide +kernel
theorem dX8_body_27 : decode cX8_body 27 = .ok (.getfield 261, 3) := by decide +kernel
theorem dX8_body_30 : decode cX8_body 30 = .ok (.iload_n 1, 1) := by decide +kernel
theorem dX8_body_31 : decode cX8_body 31 = .ok (.iaload, 1) := by decide +kernel
theorem dX8_body_32 : decode cX8_body 32 = .ok (.ireturn, 1) := by decide +kernel
theorem dX8_sheet_0 : decode cX8_sheet 0 = .ok (.iload_n 1, 1) := by decide +kernel
theorem dX8_sheet_1 : decode cX8_sheet 1 = .ok (.invokestatic 264, 3) := by decide +kernel
theorem dX8_sheet_4 : decode cX8_sheet 4 = .ok (.ifCond .eq 25, 3) := by decide +kernel
theorem dX8_sheet_7 : decode cX8_sheet 7 = .ok (.iload_n 2, 1) := by decide +kernel
theorem dX8_sheet_8 : decode cX8_sheet 8 = .ok (.ifCond .eq 27, 3) := by decide +kernel
theorem dX8_sheet_11 : decode cX8_sheet 11 = .ok (.iload_n 2, 1) := by decide +kernel
theorem dX8_sheet_12 : decode cX8_sheet 12 = .ok (.bipush 8, 2) := by decide +kernel
theorem dX8_sheet_14 : decode cX8_sheet 14 = .ok (.if_icmp .eq 21, 3) := by decide +kernel
theorem dX8_sheet_17 : decode cX8_sheet 17 = .ok (.iload_n 2, 1) := by decide +kernel
theorem dX8_sheet_18 : decode cX8_sheet 18 = .ok (.bipush 16, 2) := by decide +kernel
theorem dX8_sheet_20 : decode cX8_sheet 20 = .ok (.if_icmp .eq 15, 3) := by decide +kernel
theorem dX8_sheet_23 : decode cX8_sheet 23 = .ok (.iload_n 2, 1) := by decide +kernel
theorem dX8_sheet_24 : decode cX8_sheet 24 = .ok (.bipush 32, 2) := by decide +kernel
theorem dX8_sheet_26 : decode cX8_sheet 26 = .ok (.if_icmp .eq 9, 3) := by decide +kernel
theorem dX8_sheet_29 : decode cX8_sheet 29 = .ok (.aload_n 0, 1) := by decide +kernel
theorem dX8_sheet_30 : decode cX8_sheet 30 = .ok (.iconst 1, 1) := by decide +kernel
theorem dX8_sheet_31 : decode cX8_sheet 31 = .ok (.invokevirtual 62, 3) := by decide +kernel
theorem dX8_sheet_34 : decode cX8_sheet 34 = .ok (.ireturn, 1) := by decide +kernel
theorem dX8_sheet_35 : decode cX8_sheet 35 = .ok (.iload_n 2, 1) := by decide +kernel
theorem dX8_sheet_36 : decode cX8_sheet 36 = .ok (.ifCond .eq 13, 3) := by decide +kernel
theorem dX8_sheet_39 : decode cX8_sheet 39 = .ok (.iload_n 3, 1) := by decide +kernel
theorem dX8_sheet_40 : decode cX8_sheet 40 = .ok (.ifCond .ge 9, 3) := by decide +kernel
theorem dX8_sheet_43 : decode cX8_sheet 43 = .ok (.aload_n 0, 1) := by decide +kernel
theorem dX8_sheet_44 : decode cX8_sheet 44 = .ok (.iconst 3, 1) := by decide +kernel
theorem dX8_sheet_45 : decode cX8_sheet 45 = .ok (.invokevirtual 62, 3) := by decide +kernel
theorem dX8_sheet_48 : decode cX8_sheet 48 = .ok (.ireturn, 1) := by decide +kernel
theorem dX8_sheet_49 : decode cX8_sheet 49 = .ok (.iload_n 2, 1) := by decide +kernel
theorem dX8_sheet_50 : decode cX8_sheet 50 = .ok (.ifCond .eq 15, 3) := by decide +kernel
theorem dX8_sheet_53 : decode cX8_sheet 53 = .ok (.iload_n 3, 1) := by decide +kernel
theorem dX8_sheet_54 : decode cX8_sheet 54 = .ok (.bipush 24, 2) := by decide +kernel
theorem dX8_sheet_56 : decode cX8_sheet 56 = .ok (.if_icmp .le 9, 3) := by decide +kernel
theorem dX8_sheet_59 : decode cX8_sheet 59 = .ok (.aload_n 0, 1) := by decide +kernel
theorem dX8_sheet_60 : decode cX8_sheet 60 = .ok (.iconst 1, 1) := by decide +kernel
theorem dX8_sheet_61 : decode cX8_sheet 61 = .ok (.invokevirtual 62, 3) := by decide +kernel
theorem dX8_sheet_64 : decode cX8_sheet 64 = .ok (.ireturn, 1) := by decide +kernel
theorem dX8_sheet_65 : decode cX8_sheet 65 = .ok (.aload_n 0, 1) := by decide +kernel
theorem dX8_sheet_66 : decode cX8_sheet 66 = .ok (.getfield 24, 3) := by decide +kernel
theorem dX8_sheet_69 : decode cX8_sheet 69 = .ok (.iload_n 1, 1) := by decide +kernel
theorem dX8_sheet_70 : decode cX8_sheet 70 = .ok (.aaload, 1) := by decide +kernel
theorem dX8_sheet_71 : decode cX8_sheet 71 = .ok (.iload_n 2, 1) := by decide +kernel
theorem dX8_sheet_72 : decode cX8_sheet 72 = .ok (.iload_n 2, 1) := by decide +kernel
theorem dX8_sheet_73 : decode cX8_sheet 73 = .ok (.ifCond .ne 7, 3) := by decide +kernel
theorem dX8_sheet_76 : decode cX8_sheet 76 = .ok (.iconst 0, 1) := by decide +kernel
theorem dX8_sheet_77 : decode cX8_sheet 77 = .ok (.goto 4, 3) := by decide +kernel
theorem dX8_sheet_80 : decode cX8_sheet 80 = .ok (.iload_n 3, 1) := by decide +kernel
theorem dX8_sheet_81 : decode cX8_sheet 81 = .ok (.invokevirtual 267, 3) := by decide +kernel
theorem dX8_sheet_84 : decode cX8_sheet 84 = .ok (.iconst 1, 1) := by decide +kernel
theorem dX8_sheet_85 : decode cX8_sheet 85 = .ok (.ireturn, 1) := by decide +kernel
theorem dX8_put_0 : decode cX8_put 0 = .ok (.iload_n 1, 1) := by decide +kernel
theorem dX8_put_1 : decode cX8_put 1 = .ok (.invokestatic 264, 3) := by decide +kernel
theorem dX8_put_4 : decode cX8_put 4 = .ok (.ifCond .ne 9, 3) := by decide +kernel
theorem dX8_put_7 : decode cX8_put 7 = .ok (.aload_n 0, 1) := by decide +kernel
theorem dX8_put_8 : decode cX8_put 8 = .ok (.iconst 1, 1) := by decide +kernel
theorem dX8_put_9 : decode cX8_put 9 = .ok (.invokevirtual 62, 3) := by decide +kernel
theorem dX8_put_12 : decode cX8_put 12 = .ok (.ireturn, 1) := by decide +kernel
theorem dX8_put_13 : decode cX8_put 13 = .ok (.aload_n 0, 1) := by decide +kernel
theorem dX8_put_14 : decode cX8_put 14 = .ok (.getfield 24, 3) := by decide +kernel
theorem dX8_put_17 : decode cX8_put 17 = .ok (.iload_n 1, 1) := by decide +kernel
theorem dX8_put_18 : decode cX8_put 18 = .ok (.aaload, 1) := by decide +kernel
theorem dX8_put_19 : decode cX8_put 19 = .ok (.invokevirtual 270, 3) := by decide +kernel
theorem dX8_put_22 : decode cX8_put 22 = .ok (.ifCond .eq 9, 3) := by decide +kernel
theorem dX8_put_25 : decode cX8_put 25 = .ok (.aload_n 0, 1) := by decide +kernel
theorem dX8_put_26 : decode cX8_put 26 = .ok (.iconst 2, 1) := by decide +kernel
theorem dX8_put_27 : decode cX8_put 27 = .ok (.invokevirtual 62, 3) := by decide +kernel
theorem dX8_put_30 : decode cX8_put 30 = .ok (.ireturn, 1) := by decide +kernel
theorem dX8_put_31 : decode cX8_put 31 = .ok (.iload_n 2, 1) := by decide +kernel
theorem dX8_put_32 : decode cX8_put 32 = .ok (.iconst 0, 1) := by decide +kernel
theorem dX8_put_33 : decode cX8_put 33 = .ok (.aload_n 0, 1) := by decide +kernel
theorem dX8_put_34 : decode cX8_put 34 = .ok (.getfield 24, 3) := by decide +kernel
theorem dX8_put_37 : decode cX8_put 37 = .ok (.iload_n 1, 1) := by decide +kernel
theorem dX8_put_38 : decode cX8_put 38 = .ok (.aaload, 1) := by decide +kernel
theorem dX8_put_39 : decode cX8_put 39 = .ok (.getfield 273, 3) := by decide +kernel
theorem dX8_put_42 : decode cX8_put 42 = .ok (.iconst 1, 1) := by decide +kernel
theorem dX8_put_43 : decode cX8_put 43 = .ok (.isub, 1) := by decide +kernel
theorem dX8_put_44 : decode cX8_put 44 = .ok (.invokestatic 58, 3) := by decide +kernel
theorem dX8_put_47 : decode cX8_put 47 = .ok (.ifCond .ne 9, 3) := by decide +kernel
theorem dX8_put_50 : decode cX8_put 50 = .ok (.aload_n 0, 1) := by decide +kernel
theorem dX8_put_51 : decode cX8_put 51 = .ok (.iconst 1, 1) := by decide +kernel
theorem dX8_put_52 : decode cX8_put 52 = .ok (.invokevirtual 62, 3) := by decide +kernel
theorem dX8_put_55 : decode cX8_put 55 = .ok (.ireturn, 1) := by decide +kernel
theorem dX8_put_56 : decode cX8_put 56 = .ok (.aload_n 0, 1) := by decide +kernel
theorem dX8_put_57 : decode cX8_put 57 = .ok (.getfield 24, 3) := by decide +kernel
theorem dX8_put_60 : decode cX8_put 60 = .ok (.iload_n 1, 1) := by decide +kernel
theorem dX8_put_61 : decode cX8_put 61 = .ok (.aaload, 1) := by decide +kernel
theorem dX8_put_62 : decode cX8_put 62 = .ok (.iload_n 2, 1) := by decide +kernel
theorem dX8_put_63 : decode cX8_put 63 = .ok (.iload_n 3, 1) := by decide +kernel
theorem dX8_put_64 : decode cX8_put 64 = .ok (.invokevirtual 274, 3) := by decide +kernel
theorem dX8_put_67 : decode cX8_put 67 = .ok (.iconst 1, 1) := by decide +kernel
theorem dX8_put_68 : decode cX8_put 68 = .ok (.ireturn, 1) := by decide +kernel
theorem dX8_move_0 : decode cX8_move 0 = .ok (.iload_n 1, 1) := by decide +kernel
theorem dX8_move_1 : decode cX8_move 1 = .ok (.invokestatic 264, 3) := by decide +kernel
theorem dX8_move_4 : decode cX8_move 4 = .ok (.ifCond .eq 10, 3) := by decide +kernel
theorem dX8_move_7 : decode cX8_move 7 = .ok (.iload_n 3, 1) := by decide +kernel
theorem dX8_move_8 : decode cX8_move 8 = .ok (.invokestatic 264, 3) := by decide +kernel
theorem dX8_move_11 : decode cX8_move 11 = .ok (.ifCond .ne 9, 3) := by decide +kernel
theorem dX8_move_14 : decode cX8_move 14 = .ok (.aload_n 0, 1) := by decide +kernel
theorem dX8_move_15 : decode cX8_move 15 = .ok (.iconst 1, 1) := by decide +kernel
theorem dX8_move_16 : decode cX8_move 16 = .ok (.invokevirtual 62, 3) := by decide +kernel
theorem dX8_move_19 : decode cX8_move 19 = .ok (.ireturn, 1) := by decide +kernel
theorem dX8_move_20 : decode cX8_move 20 = .ok (.aload_n 0, 1) := by decide +kernel
theorem dX8_move_21 : decode cX8_move 21 = .ok (.getfield 24, 3) := by decide +kernel
theorem dX8_move_24 : decode cX8_move 24 = .ok (.iload_n 1, 1) := by decide +kernel
theorem dX8_move_25 : decode cX8_move 25 = .ok (.aaload, 1) := by decide +kernel
theorem dX8_move_26 : decode cX8_move 26 = .ok (.astore 6, 2) := by decide +kernel
theorem dX8_move_28 : decode cX8_move 28 = .ok (.aload_n 0, 1) := by decide +kernel
theorem dX8_move_29 : decode cX8_move 29 = .ok (.getfield 24, 3) := by decide +kernel
theorem dX8_move_32 : decode cX8_move 32 = .ok (.iload_n 3, 1) := by decide +kernel
theorem dX8_move_33 : decode cX8_move 33 = .ok (.aaload, 1) := by decide +kernel
theorem dX8_move_34 : decode cX8_move 34 = .ok (.astore 7, 2) := by decide +kernel
theorem dX8_move_36 : decode cX8_move 36 = .ok (.aload 6, 2) := by decide +kernel
theorem dX8_move_38 : decode cX8_move 38 = .ok (.invokevirtual 270, 3) := by decide +kernel
theorem dX8_move_41 : decode cX8_move 41 = .ok (.ifCond .ne 11, 3) := by decide +kernel
theorem dX8_move_44 : decode cX8_move 44 = .ok (.aload 7, 2) := by decide +kernel
theorem dX8_move_46 : decode cX8_move 46 = .ok (.invokevirtual 270, 3) := by decide +kernel
theorem dX8_move_49 : decode cX8_move 49 = .ok (.ifCond .eq 9, 3) := by decide +kernel
theorem dX8_move_52 : decode cX8_move 52 = .ok (.aload_n 0, 1) := by decide +kernel
theorem dX8_move_53 : decode cX8_move 53 = .ok (.iconst 2, 1) := by decide +kernel
theorem dX8_move_54 : decode cX8_move 54 = .ok (.invokevirtual 62, 3) := by decide +kernel
theorem dX8_move_57 : decode cX8_move 57 = .ok (.ireturn, 1) := by decide +kernel
theorem dX8_move_58 : decode cX8_move 58 = .ok (.aload 6, 2) := by decide +kernel
theorem dX8_move_60 : decode cX8_move 60 = .ok (.getfield 277, 3) := by decide +kernel
theorem dX8_move_63 : decode cX8_move 63 = .ok (.aload 7, 2) := by decide +kernel
theorem dX8_move_65 : decode cX8_move 65 = .ok (.getfield 277, 3) := by decide +kernel
theorem dX8_move_68 : decode cX8_move 68 = .ok (.if_icmp .eq 9, 3) := by decide +kernel
theorem dX8_move_71 : decode cX8_move 71 = .ok (.aload_n 0, 1) := by decide +kernel
theorem dX8_move_72 : decode cX8_move 72 = .ok (.iconst 5, 1) := by decide +kernel
theorem dX8_move_73 : decode cX8_move 73 = .ok (.invokevirtual 62, 3) := by decide +kernel
theorem dX8_move_76 : decode cX8_move 76 = .ok (.ireturn, 1) := by decide +kernel
theorem dX8_move_77 : decode cX8_move 77 = .ok (.aload 6, 2) := by decide +kernel
theorem dX8_move_79 : decode cX8_move 79 = .ok (.iload_n 2, 1) := by decide +kernel
theorem dX8_move_80 : decode cX8_move 80 = .ok (.iload 5, 2) := by decide +kernel
theorem dX8_move_82 : decode cX8_move 82 = .ok (.invokevirtual 280, 3) := by decide +kernel
theorem dX8_move_85 : decode cX8_move 85 = .ok (.ifCond .eq 15, 3) := by decide +kernel
theorem dX8_move_88 : decode cX8_move 88 = .ok (.aload 7, 2) := by decide +kernel
theorem dX8_move_90 : decode cX8_move 90 = .ok (.iload 4, 2) := by decide +kernel
theorem dX8_move_92 : decode cX8_move 92 = .ok (.iload 5, 2) := by decide +kernel
theorem dX8_move_94 : decode cX8_move 94 = .ok (.invokevirtual 280, 3) := by decide +kernel
theorem dX8_move_97 : decode cX8_move 97 = .ok (.ifCond .ne 9, 3) := by decide +kernel
theorem dX8_move_100 : decode cX8_move 100 = .ok (.aload_n 0, 1) := by decide +kernel
theorem dX8_move_101 : decode cX8_move 101 = .ok (.iconst 1, 1) := by decide +kernel
theorem dX8_move_102 : decode cX8_move 102 = .ok (.invokevirtual 62, 3) := by decide +kernel
theorem dX8_move_105 : decode cX8_move 105 = .ok (.ireturn, 1) := by decide +kernel
theorem dX8_move_106 : decode cX8_move 106 = .ok (.aload 6, 2) := by decide +kernel
theorem dX8_move_108 : decode cX8_move 108 = .ok (.getfield 283, 3) := by decide +kernel
theorem dX8_move_111 : decode cX8_move 111 = .ok (.iload_n 2, 1) := by decide +kernel
theorem dX8_move_112 : decode cX8_move 112 = .ok (.aload 7, 2) := by decide +kernel
theorem dX8_move_114 : decode cX8_move 114 = .ok (.getfield 283, 3) := by decide +kernel
theorem dX8_move_117 : decode cX8_move 117 = .ok (.iload 4, 2) := by decide +kernel
theorem dX8_move_119 : decode cX8_move 119 = .ok (.iload 5, 2) := by decide +kernel
theorem dX8_move_121 : decode cX8_move 121 = .ok (.invokestatic 286, 3) := by decide +kernel
theorem dX8_move_124 : decode cX8_move 124 = .ok (.iload 5, 2) := by decide +kernel
theorem dX8_move_126 : decode cX8_move 126 = .ok (.ireturn, 1) := by decide +kernel
theorem dX8_customers_0 : decode cX8_customers 0 = .ok (.aload_n 0, 1) := by decide +kernel
theorem dX8_customers_1 : decode cX8_customers 1 = .ok (.iload_n 1, 1) := by decide +kernel
theorem dX8_customers_2 : decode cX8_customers 2 = .ok (.invokevirtual 292, 3) := by decide +kernel
theorem dX8_customers_5 : decode cX8_customers 5 = .ok (.istore_n 2, 1) := by decide +kernel
theorem dX8_customers_6 : decode cX8_customers 6 = .ok (.iload_n 2, 1) := by decide +kernel
theorem dX8_customers_7 : decode cX8_customers 7 = .ok (.ifCond .eq 9, 3) := by decide +kernel
theorem dX8_customers_10 : decode cX8_customers 10 = .ok (.aload_n 0, 1) := by decide +kernel
theorem dX8_customers_11 : decode cX8_customers 11 = .ok (.iload_n 2, 1) := by decide +kernel
theorem dX8_customers_12 : decode cX8_customers 12 = .ok (.invokevirtual 62, 3) := by decide +kernel
theorem dX8_customers_15 : decode cX8_customers 15 = .ok (.ireturn, 1) := by decide +kernel
theorem dX8_customers_16 : decode cX8_customers 16 = .ok (.aload_n 0, 1) := by decide +kernel
theorem dX8_customers_17 : decode cX8_customers 17 = .ok (.getfield 24, 3) := by decide +kernel
theorem dX8_customers_20 : decode cX8_customers 20 = .ok (.iload_n 1, 1) := by decide +kernel
theorem dX8_customers_21 : decode cX8_customers 21 = .ok (.aaload, 1) := by decide +kernel
theorem dX8_customers_22 : decode cX8_customers 22 = .ok (.getfield 283, 3) := by decide +kernel
theorem dX8_customers_25 : decode cX8_customers 25 = .ok (.astore_n 3, 1) := by decide +kernel
theorem dX8_customers_26 : decode cX8_customers 26 = .ok (.aload_n 0, 1) := by decide +kernel
theorem dX8_customers_27 : decode cX8_customers 27 = .ok (.getfield 24, 3) := by decide +kernel
theorem dX8_customers_30 : decode cX8_customers 30 = .ok (.iload_n 1, 1) := by decide +kernel
theorem dX8_customers_31 : decode cX8_customers 31 = .ok (.aaload, 1) := by decide +kernel
theorem dX8_customers_32 : decode cX8_customers 32 = .ok (.getfield 273, 3) := by decide +kernel
theorem dX8_customers_35 : decode cX8_customers 35 = .ok (.iconst 3, 1) := by decide +kernel
theorem dX8_customers_36 : decode cX8_customers 36 = .ok (.idiv, 1) := by decide +kernel
theorem dX8_customers_37 : decode cX8_customers 37 = .ok (.istore 4, 2) := by decide +kernel
theorem dX8_customers_39 : decode cX8_customers 39 = .ok (.iconst 0, 1) := by decide +kernel
theorem dX8_customers_40 : decode cX8_customers 40 = .ok (.istore 5, 2) := by decide +kernel
theorem dX8_customers_42 : decode cX8_customers 42 = .ok (.iload 5, 2) := by decide +kernel
theorem dX8_customers_44 : decode cX8_customers 44 = .ok (.iload 4, 2) := by decide +kernel
theorem dX8_customers_46 : decode cX8_customers 46 = .ok (.if_icmp .ge 85, 3) := by decide +kernel
theorem dX8_customers_49 : decode cX8_customers 49 = .ok (.aload_n 3, 1) := by decide +kernel
theorem dX8_customers_50 : decode cX8_customers 50 = .ok (.iconst 3, 1) := by decide +kernel
theorem dX8_customers_51 : decode cX8_customers 51 = .ok (.iload 5, 2) := by decide +kernel
theorem dX8_customers_53 : decode cX8_customers 53 = .ok (.imul, 1) := by decide +kernel
theorem dX8_customers_54 : decode cX8_customers 54 = .ok (.iaload, 1) := by decide +kernel
theorem dX8_customers_55 : decode cX8_customers 55 = .ok (.aload_n 3, 1) := by decide +kernel
theorem dX8_customers_56 : decode cX8_customers 56 = .ok (.iconst 3, 1) := by decide +kernel
theorem dX8_customers_57 : decode cX8_customers 57 = .ok (.iload 5, 2) := by decide +kernel
theorem dX8_customers_59 : decode cX8_customers 59 = .ok (.imul, 1) := by decide +kernel
theorem dX8_customers_60 : decode cX8_customers 60 = .ok (.iconst 1, 1) := by decide +kernel
theorem dX8_customers_61 : decode cX8_customers 61 = .ok (.iadd, 1) := by decide +kernel
theorem dX8_customers_62 : decode cX8_customers 62 = .ok (.iaload, 1) := by decide +kernel
theorem dX8_customers_63 : decode cX8_customers 63 = .ok (.aload_n 3, 1) := by decide +kernel
theorem dX8_customers_64 : decode cX8_customers 64 = .ok (.iconst 3, 1) := by decide +kernel
theorem dX8_customers_65 : decode cX8_customers 65 = .ok (.iload 5, 2) := by decide +kernel
theorem dX8_customers_67 : decode cX8_customers 67 = .ok (.imul, 1) := by decide +kernel
theorem dX8_customers_68 : decode cX8_customers 68 = .ok (.iconst 2, 1) := by decide +kernel
theorem dX8_customers_69 : decode cX8_customers 69 = .ok (.iadd, 1) := by decide +kernel
theorem dX8_customers_70 : decode cX8_customers 70 = .ok (.iaload, 1) := by decide +kernel
theorem dX8_customers_71 : decode cX8_customers 71 = .ok (.invokestatic 118, 3) := by decide +kernel
theorem dX8_customers_74 : decode cX8_customers 74 = .ok (.istore 6, 2) := by decide +kernel
theorem dX8_customers_76 : decode cX8_customers 76 = .ok (.iload 6, 2) := by decide +kernel
theorem dX8_customers_78 : decode cX8_customers 78 = .ok (.ifCond .eq 15, 3) := by decide +kernel
theorem dX8_customers_81 : decode cX8_customers 81 = .ok (.aload_n 0, 1) := by decide +kernel
theorem dX8_customers_82 : decode cX8_customers 82 = .ok (.getfield 10, 3) := by decide +kernel
theorem dX8_customers_85 : decode cX8_customers 85 = .ok (.getfield 121, 3) := by decide +kernel
theorem dX8_customers_88 : decode cX8_customers 88 = .ok (.bipush 10, 2) := by decide +kernel
theorem dX8_customers_90 : decode cX8_customers 90 = .ok (.if_icmp .lt 6, 3) := by decide +kernel
theorem dX8_customers_93 : decode cX8_customers 93 = .ok (.iload 5, 2) := by decide +kernel
theorem dX8_customers_95 : decode cX8_customers 95 = .ok (.ireturn, 1) := by decide +kernel
theorem dX8_customers_96 : decode cX8_customers 96 = .ok (.aload_n 0, 1) := by decide +kernel
theorem dX8_customers_97 : decode cX8_customers 97 = .ok (.getfield 10, 3) := by decide +kernel
theorem dX8_customers_100 : decode cX8_customers 100 = .ok (.aload_n 3, 1) := by decide +kernel
theorem dX8_customers_101 : decode cX8_customers 101 = .ok (.iconst 3, 1) := by decide +kernel
theorem dX8_customers_102 : decode cX8_customers 102 = .ok (.iload 5, 2) := by decide +kernel
theorem dX8_customers_104 : decode cX8_customers 104 = .ok (.imul, 1) := by decide +kernel
theorem dX8_customers_105 : decode cX8_customers 105 = .ok (.iaload, 1) := by decide +kernel
theorem dX8_customers_106 : decode cX8_customers 106 = .ok (.aload_n 3, 1) := by decide +kernel
theorem dX8_customers_107 : decode cX8_customers 107 = .ok (.iconst 3, 1) := by decide +kernel
theorem dX8_customers_108 : decode cX8_customers 108 = .ok (.iload 5, 2) := by decide +kernel
theorem dX8_customers_110 : decode cX8_customers 110 = .ok (.imul, 1) := by decide +kernel
theorem dX8_customers_111 : decode cX8_customers 111 = .ok (.iconst 1, 1) := by decide +kernel
theorem dX8_customers_112 : decode cX8_customers 112 = .ok (.iadd, 1) := by decide +kernel
theorem dX8_customers_113 : decode cX8_customers 113 = .ok (.iaload, 1) := by decide +kernel
theorem dX8_customers_114 : decode cX8_customers 114 = .ok (.aload_n 3, 1) := by decide +kernel
theorem dX8_customers_115 : decode cX8_customers 115 = .ok (.iconst 3, 1) := by decide +kernel
theorem dX8_customers_116 : decode cX8_customers 116 = .ok (.iload 5, 2) := by decide +kernel
theorem dX8_customers_118 : decode cX8_customers 118 = .ok (.imul, 1) := by decide +kernel
theorem dX8_customers_119 : decode cX8_customers 119 = .ok (.iconst 2, 1) := by decide +kernel
theorem dX8_customers_120 : decode cX8_customers 120 = .ok (.iadd, 1) := by decide +kernel
theorem dX8_customers_121 : decode cX8_customers 121 = .ok (.iaload, 1) := by decide +kernel
theorem dX8_customers_122 : decode cX8_customers 122 = .ok (.invokevirtual 124, 3) := by decide +kernel
theorem dX8_customers_125 : decode cX8_customers 125 = .ok (.iinc 5 1, 3) := by decide +kernel
theorem dX8_customers_128 : decode cX8_customers 128 = .ok (.goto (-86), 3) := by decide +kernel
theorem dX8_customers_131 : decode cX8_customers 131 = .ok (.iload 4, 2) := by decide +kernel
theorem dX8_customers_133 : decode cX8_customers 133 = .ok (.ireturn, 1) := by decide +kernel
theorem dX8_judge_0 : decode cX8_judge 0 = .ok (.aload_n 0, 1) := by decide +kernel
theorem dX8_judge_1 : decode cX8_judge 1 = .ok (.iload_n 1, 1) := by decide +kernel
theorem dX8_judge_2 : decode cX8_judge 2 = .ok (.invokevirtual 292, 3) := by decide +kernel
theorem dX8_judge_5 : decode cX8_judge 5 = .ok (.istore_n 2, 1) := by decide +kernel
theorem dX8_judge_6 : decode cX8_judge 6 = .ok (.iload_n 2, 1) := by decide +kernel
theorem dX8_judge_7 : decode cX8_judge 7 = .ok (.ifCond .eq 9, 3) := by decide +kernel
theorem dX8_judge_10 : decode cX8_judge 10 = .ok (.aload_n 0, 1) := by decide +kernel
theorem dX8_judge_11 : decode cX8_judge 11 = .ok (.iload_n 2, 1) := by decide +kernel
theorem dX8_judge_12 : decode cX8_judge 12 = .ok (.invokevirtual 62, 3) := by decide +kernel
theorem dX8_judge_15 : decode cX8_judge 15 = .ok (.ireturn, 1) := by decide +kernel
theorem dX8_judge_16 : decode cX8_judge 16 = .ok (.aload_n 0, 1) := by decide +kernel
theorem dX8_judge_17 : decode cX8_judge 17 = .ok (.getfield 24, 3) := by decide +kernel
theorem dX8_judge_20 : decode cX8_judge 20 = .ok (.iload_n 1, 1) := by decide +kernel
theorem dX8_judge_21 : decode cX8_judge 21 = .ok (.aaload, 1) := by decide +kernel
theorem dX8_judge_22 : decode cX8_judge 22 = .ok (.getfield 283, 3) := by decide +kernel
theorem dX8_judge_25 : decode cX8_judge 25 = .ok (.astore_n 3, 1) := by decide +kernel
theorem dX8_judge_26 : decode cX8_judge 26 = .ok (.aload_n 0, 1) := by decide +kernel
theorem dX8_judge_27 : decode cX8_judge 27 = .ok (.getfield 24, 3) := by decide +kernel
theorem dX8_judge_30 : decode cX8_judge 30 = .ok (.iload_n 1, 1) := by decide +kernel
theorem dX8_judge_31 : decode cX8_judge 31 = .ok (.aaload, 1) := by decide +kernel
theorem dX8_judge_32 : decode cX8_judge 32 = .ok (.getfield 273, 3) := by decide +kernel
theorem dX8_judge_35 : decode cX8_judge 35 = .ok (.iconst 2, 1) := by decide +kernel
theorem dX8_judge_36 : decode cX8_judge 36 = .ok (.idiv, 1) := by decide +kernel
theorem dX8_judge_37 : decode cX8_judge 37 = .ok (.istore 4, 2) := by decide +kernel
theorem dX8_judge_39 : decode cX8_judge 39 = .ok (.aload_n 0, 1) := by decide +kernel
theorem dX8_judge_40 : decode cX8_judge 40 = .ok (.getfield 19, 3) := by decide +kernel
theorem dX8_judge_43 : decode cX8_judge 43 = .ok (.aload_n 0, 1) := by decide +kernel
theorem dX8_judge_44 : decode cX8_judge 44 = .ok (.getfield 10, 3) := by decide +kernel
theorem dX8_judge_47 : decode cX8_judge 47 = .ok (.invokevirtual 208, 3) := by decide +kernel
theorem dX8_judge_50 : decode cX8_judge 50 = .ok (.iconst 0, 1) := by decide +kernel
theorem dX8_judge_51 : decode cX8_judge 51 = .ok (.istore 5, 2) := by decide +kernel
theorem dX8_judge_53 : decode cX8_judge 53 = .ok (.iload 5, 2) := by decide +kernel
theorem dX8_judge_55 : decode cX8_judge 55 = .ok (.iload 4, 2) := by decide +kernel
theorem dX8_judge_57 : decode cX8_judge 57 = .ok (.if_icmp .ge 84, 3) := by decide +kernel
theorem dX8_judge_60 : decode cX8_judge 60 = .ok (.aload_n 3, 1) := by decide +kernel
theorem dX8_judge_61 : decode cX8_judge 61 = .ok (.iconst 2, 1) := by decide +kernel
theorem dX8_judge_62 : decode cX8_judge 62 = .ok (.iload 5, 2) := by decide +kernel
theorem dX8_judge_64 : decode cX8_judge 64 = .ok (.imul, 1) := by decide +kernel
theorem dX8_judge_65 : decode cX8_judge 65 = .ok (.iaload, 1) := by decide +kernel
theorem dX8_judge_66 : decode cX8_judge 66 = .ok (.istore 6, 2) := by decide +kernel
theorem dX8_judge_68 : decode cX8_judge 68 = .ok (.aload_n 3, 1) := by decide +kernel
theorem dX8_judge_69 : decode cX8_judge 69 = .ok (.iconst 2, 1) := by decide +kernel
theorem dX8_judge_70 : decode cX8_judge 70 = .ok (.iload 5, 2) := by decide +kernel
theorem dX8_judge_72 : decode cX8_judge 72 = .ok (.imul, 1) := by decide +kernel
theorem dX8_judge_73 : decode cX8_judge 73 = .ok (.iconst 1, 1) := by decide +kernel
theorem dX8_judge_74 : decode cX8_judge 74 = .ok (.iadd, 1) := by decide +kernel
theorem dX8_judge_75 : decode cX8_judge 75 = .ok (.iaload, 1) := by decide +kernel
theorem dX8_judge_76 : decode cX8_judge 76 = .ok (.istore 7, 2) := by decide +kernel
theorem dX8_judge_78 : decode cX8_judge 78 = .ok (.aload_n 0, 1) := by decide +kernel
theorem dX8_judge_79 : decode cX8_judge 79 = .ok (.getfield 19, 3) := by decide +kernel
theorem dX8_judge_82 : decode cX8_judge 82 = .ok (.iload 6, 2) := by decide +kernel
theorem dX8_judge_84 : decode cX8_judge 84 = .ok (.invokevirtual 89, 3) := by decide +kernel
theorem dX8_judge_87 : decode cX8_judge 87 = .ok (.ifCond .eq 25, 3) := by decide +kernel
theorem dX8_judge_90 : decode cX8_judge 90 = .ok (.iload 7, 2) := by decide +kernel
theorem dX8_judge_92 : decode cX8_judge 92 = .ok (.invokestatic 54, 3) := by decide +kernel
theorem dX8_judge_95 : decode cX8_judge 95 = .ok (.ifCond .eq 17, 3) := by decide +kernel
theorem dX8_judge_98 : decode cX8_judge 98 = .ok (.aload_n 0, 1) := by decide +kernel
theorem dX8_judge_99 : decode cX8_judge 99 = .ok (.getfield 19, 3) := by decide +kernel
theorem dX8_judge_102 : decode cX8_judge 102 = .ok (.iload 6, 2) := by decide +kernel
theorem dX8_judge_104 : decode cX8_judge 104 = .ok (.iload 7, 2) := by decide +kernel
theorem dX8_judge_106 : decode cX8_judge 106 = .ok (.invokevirtual 295, 3) := by decide +kernel
theorem dX8_judge_109 : decode cX8_judge 109 = .ok (.ifCond .ne 6, 3) := by decide +kernel
theorem dX8_judge_112 : decode cX8_judge 112 = .ok (.iload 5, 2) := by decide +kernel
theorem dX8_judge_114 : decode cX8_judge 114 = .ok (.ireturn, 1) := by decide +kernel
theorem dX8_judge_115 : decode cX8_judge 115 = .ok (.aload_n 0, 1) := by decide +kernel
theorem dX8_judge_116 : decode cX8_judge 116 = .ok (.getfield 19, 3) := by decide +kernel
theorem dX8_judge_119 : decode cX8_judge 119 = .ok (.getfield 79, 3) := by decide +kernel
theorem dX8_judge_122 : decode cX8_judge 122 = .ok (.iload 6, 2) := by decide +kernel
theorem dX8_judge_124 : decode cX8_judge 124 = .ok (.aaload, 1) := by decide +kernel
theorem dX8_judge_125 : decode cX8_judge 125 = .ok (.getfield 232, 3) := by decide +kernel
theorem dX8_judge_128 : decode cX8_judge 128 = .ok (.iload 7, 2) := by decide +kernel
theorem dX8_judge_130 : decode cX8_judge 130 = .ok (.dup2, 1) := by decide +kernel
theorem dX8_judge_131 : decode cX8_judge 131 = .ok (.iaload, 1) := by decide +kernel
theorem dX8_judge_132 : decode cX8_judge 132 = .ok (.iconst 1, 1) := by decide +kernel
theorem dX8_judge_133 : decode cX8_judge 133 = .ok (.isub, 1) := by decide +kernel
theorem dX8_judge_134 : decode cX8_judge 134 = .ok (.iastore, 1) := by decide +kernel
theorem dX8_judge_135 : decode cX8_judge 135 = .ok (.iinc 5 1, 3) := by decide +kernel
theorem dX8_judge_138 : decode cX8_judge 138 = .ok (.goto (-85), 3) := by decide +kernel
theorem dX8_judge_141 : decode cX8_judge 141 = .ok (.iload 4, 2) := by decide +kernel
theorem dX8_judge_143 : decode cX8_judge 143 = .ok (.ireturn, 1) := by decide +kernel
theorem dX8_came_0 : decode cX8_came 0 = .ok (.iload_n 1, 1) := by decide +kernel
theorem dX8_came_1 : decode cX8_came 1 = .ok (.invokestatic 264, 3) := by decide +kernel
theorem dX8_came_4 : decode cX8_came 4 = .ok (.ifCond .eq 23, 3) := by decide +kernel
theorem dX8_came_7 : decode cX8_came 7 = .ok (.aload_n 0, 1) := by decide +kernel
theorem dX8_came_8 : decode cX8_came 8 = .ok (.getfield 10, 3) := by decide +kernel
theorem dX8_came_11 : decode cX8_came 11 = .ok (.iload_n 2, 1) := by decide +kernel
theorem dX8_came_12 : decode cX8_came 12 = .ok (.invokevirtual 89, 3) := by decide +kernel
theorem dX8_came_15 : decode cX8_came 15 = .ok (.ifCond .eq 12, 3) := by decide +kernel
theorem dX8_came_18 : decode cX8_came 18 = .ok (.iload_n 3, 1) := by decide +kernel
theorem dX8_came_19 : decode cX8_came 19 = .ok (.iconst 0, 1) := by decide +kernel
theorem dX8_came_20 : decode cX8_came 20 = .ok (.iconst 3, 1) := by decide +kernel
theorem dX8_came_21 : decode cX8_came 21 = .ok (.invokestatic 58, 3) := by decide +kernel
theorem dX8_came_24 : decode cX8_came 24 = .ok (.ifCond .ne 9, 3) := by decide +kernel
theorem dX8_came_27 : decode cX8_came 27 = .ok (.aload_n 0, 1) := by decide +kernel
theorem dX8_came_28 : decode cX8_came 28 = .ok (.iconst 1, 1) := by decide +kernel
theorem dX8_came_29 : decode cX8_came 29 = .ok (.invokevirtual 62, 3) := by decide +kernel
theorem dX8_came_32 : decode cX8_came 32 = .ok (.ireturn, 1) := by decide +kernel
theorem dX8_came_33 : decode cX8_came 33 = .ok (.aload_n 0, 1) := by decide +kernel
theorem dX8_came_34 : decode cX8_came 34 = .ok (.getfield 24, 3) := by decide +kernel
theorem dX8_came_37 : decode cX8_came 37 = .ok (.iload_n 1, 1) := by decide +kernel
theorem dX8_came_38 : decode cX8_came 38 = .ok (.aaload, 1) := by decide +kernel
theorem dX8_came_39 : decode cX8_came 39 = .ok (.invokevirtual 270, 3) := by decide +kernel
theorem dX8_came_42 : decode cX8_came 42 = .ok (.ifCond .ne 17, 3) := by decide +kernel
theorem dX8_came_45 : decode cX8_came 45 = .ok (.aload_n 0, 1) := by decide +kernel
theorem dX8_came_46 : decode cX8_came 46 = .ok (.getfield 24, 3) := by decide +kernel
theorem dX8_came_49 : decode cX8_came 49 = .ok (.iload_n 1, 1) := by decide +kernel
theorem dX8_came_50 : decode cX8_came 50 = .ok (.aaload, 1) := by decide +kernel
theorem dX8_came_51 : decode cX8_came 51 = .ok (.getfield 273, 3) := by decide +kernel
theorem dX8_came_54 : decode cX8_came 54 = .ok (.bipush 6, 2) := by decide +kernel
theorem dX8_came_56 : decode cX8_came 56 = .ok (.if_icmp .ge 9, 3) := by decide +kernel
theorem dX8_came_59 : decode cX8_came 59 = .ok (.aload_n 0, 1) := by decide +kernel
theorem dX8_came_60 : decode cX8_came 60 = .ok (.iconst 2, 1) := by decide +kernel
theorem dX8_came_61 : decode cX8_came 61 = .ok (.invokevirtual 62, 3) := by decide +kernel
theorem dX8_came_64 : decode cX8_came 64 = .ok (.ireturn, 1) := by decide +kernel
theorem dX8_came_65 : decode cX8_came 65 = .ok (.aload_n 0, 1) := by decide +kernel
theorem dX8_came_66 : decode cX8_came 66 = .ok (.getfield 19, 3) := by decide +kernel
theorem dX8_came_69 : decode cX8_came 69 = .ok (.aload_n 0, 1) := by decide +kernel
theorem dX8_came_70 : decode cX8_came 70 = .ok (.getfield 10, 3) := by decide +kernel
theorem dX8_came_73 : decode cX8_came 73 = .ok (.invokevirtual 208, 3) := by decide +kernel
theorem dX8_came_76 : decode cX8_came 76 = .ok (.aload_n 0, 1) := by decide +kernel
theorem dX8_came_77 : decode cX8_came 77 = .ok (.getfield 45, 3) := by decide +kernel
theorem dX8_came_80 : decode cX8_came 80 = .ok (.aload_n 0, 1) := by decide +kernel
theorem dX8_came_81 : decode cX8_came 81 = .ok (.getfield 19, 3) := by decide +kernel
theorem dX8_came_84 : decode cX8_came 84 = .ok (.iload_n 2, 1) := by decide +kernel
theorem dX8_came_85 : decode cX8_came 85 = .ok (.aload_n 0, 1) := by decide +kernel
theorem dX8_came_86 : decode cX8_came 86 = .ok (.getfield 24, 3) := by decide +kernel
theorem dX8_came_89 : decode cX8_came 89 = .ok (.iload_n 1, 1) := by decide +kernel
theorem dX8_came_90 : decode cX8_came 90 = .ok (.aaload, 1) := by decide +kernel
theorem dX8_came_91 : decode cX8_came 91 = .ok (.getfield 283, 3) := by decide +kernel
theorem dX8_came_94 : decode cX8_came 94 = .ok (.invokevirtual 298, 3) := by decide +kernel
theorem dX8_came_97 : decode cX8_came 97 = .ok (.aload_n 0, 1) := by decide +kernel
theorem dX8_came_98 : decode cX8_came 98 = .ok (.getfield 45, 3) := by decide +kernel
theorem dX8_came_101 : decode cX8_came 101 = .ok (.getfield 302, 3) := by decide +kernel
theorem dX8_came_104 : decode cX8_came 104 = .ok (.ifCond .ne 19, 3) := by decide +kernel
theorem dX8_came_107 : decode cX8_came 107 = .ok (.iload_n 3, 1) := by decide +kernel
theorem dX8_came_108 : decode cX8_came 108 = .ok (.iconst 1, 1) := by decide +kernel
theorem dX8_came_109 : decode cX8_came 109 = .ok (.if_icmp .eq 8, 3) := by decide +kernel
theorem dX8_came_112 : decode cX8_came 112 = .ok (.iload_n 3, 1) := by decide +kernel
theorem dX8_came_113 : decode cX8_came 113 = .ok (.iconst 2, 1) := by decide +kernel
theorem dX8_came_114 : decode cX8_came 114 = .ok (.if_icmp .ne 9, 3) := by decide +kernel
theorem dX8_came_117 : decode cX8_came 117 = .ok (.aload_n 0, 1) := by decide +kernel
theorem dX8_came_118 : decode cX8_came 118 = .ok (.iconst 2, 1) := by decide +kernel
theorem dX8_came_119 : decode cX8_came 119 = .ok (.invokevirtual 62, 3) := by decide +kernel
theorem dX8_came_122 : decode cX8_came 122 = .ok (.ireturn, 1) := by decide +kernel
theorem dX8_came_123 : decode cX8_came 123 = .ok (.iload_n 3, 1) := by decide +kernel
theorem dX8_came_124 : decode cX8_came 124 = .ok (.tableswitch 52 0 2 #[28, 36, 44], 28) := by decide +kernel
theorem dX8_came_152 : decode cX8_came 152 = .ok (.aload_n 0, 1) := by decide +kernel
theorem dX8_came_153 : decode cX8_came 153 = .ok (.getfield 45, 3) := by decide +kernel
theorem dX8_came_156 : decode cX8_came 156 = .ok (.getfield 302, 3) := by decide +kernel
theorem dX8_came_159 : decode cX8_came 159 = .ok (.ireturn, 1) := by decide +kernel
theorem dX8_came_160 : decode cX8_came 160 = .ok (.aload_n 0, 1) := by decide +kernel
theorem dX8_came_161 : decode cX8_came 161 = .ok (.getfield 45, 3) := by decide +kernel
theorem dX8_came_164 : decode cX8_came 164 = .ok (.getfield 305, 3) := by decide +kernel
theorem dX8_came_167 : decode cX8_came 167 = .ok (.ireturn, 1) := by decide +kernel
theorem dX8_came_168 : decode cX8_came 168 = .ok (.aload_n 0, 1) := by decide +kernel
theorem dX8_came_169 : decode cX8_came 169 = .ok (.getfield 45, 3) := by decide +kernel
theorem dX8_came_172 : decode cX8_came 172 = .ok (.getfield 308, 3) := by decide +kernel
theorem dX8_came_175 : decode cX8_came 175 = .ok (.ireturn, 1) := by decide +kernel
theorem dX8_came_176 : decode cX8_came 176 = .ok (.aload_n 0, 1) := by decide +kernel
theorem dX8_came_177 : decode cX8_came 177 = .ok (.getfield 45, 3) := by decide +kernel
theorem dX8_came_180 : decode cX8_came 180 = .ok (.getfield 311, 3) := by decide +kernel
theorem dX8_came_183 : decode cX8_came 183 = .ok (.ireturn, 1) := by decide +kernel
theorem dX8_image_0 : decode cX8_image 0 = .ok (.aload_n 0, 1) := by decide +kernel
theorem dX8_image_1 : decode cX8_image 1 = .ok (.getfield 16, 3) := by decide +kernel
theorem dX8_image_4 : decode cX8_image 4 = .ok (.aload_n 0, 1) := by decide +kernel
theorem dX8_image_5 : decode cX8_image 5 = .ok (.getfield 10, 3) := by decide +kernel
theorem dX8_image_8 : decode cX8_image 8 = .ok (.invokevirtual 208, 3) := by decide +kernel
theorem dX8_image_11 : decode cX8_image 11 = .ok (.aload_n 0, 1) := by decide +kernel
theorem dX8_image_12 : decode cX8_image 12 = .ok (.dup, 1) := by decide +kernel
theorem dX8_image_13 : decode cX8_image 13 = .ok (.getfield 314, 3) := by decide +kernel
theorem dX8_image_16 : decode cX8_image 16 = .ok (.iconst 1, 1) := by decide +kernel
theorem dX8_image_17 : decode cX8_image 17 = .ok (.iadd, 1) := by decide +kernel
theorem dX8_image_18 : decode cX8_image 18 = .ok (.putfield 314, 3) := by decide +kernel
theorem dX8_image_21 : decode cX8_image 21 = .ok (.aload_n 0, 1) := by decide +kernel
theorem dX8_image_22 : decode cX8_image 22 = .ok (.getfield 314, 3) := by decide +kernel
theorem dX8_image_25 : decode cX8_image 25 = .ok (.ireturn, 1) := by decide +kernel
theorem dX8_restore_0 : decode cX8_restore 0 = .ok (.aload_n 0, 1) := by decide +kernel
theorem dX8_restore_1 : decode cX8_restore 1 = .ok (.getfield 314, 3) := by decide +kernel
theorem dX8_restore_4 : decode cX8_restore 4 = .ok (.ifCond .ne 9, 3) := by decide +kernel
theorem dX8_restore_7 : decode cX8_restore 7 = .ok (.aload_n 0, 1) := by decide +kernel
theorem dX8_restore_8 : decode cX8_restore 8 = .ok (.iconst 2, 1) := by decide +kernel
theorem dX8_restore_9 : decode cX8_restore 9 = .ok (.invokevirtual 62, 3) := by decide +kernel
theorem dX8_restore_12 : decode cX8_restore 12 = .ok (.ireturn, 1) := by decide +kernel
theorem dX8_restore_13 : decode cX8_restore 13 = .ok (.aload_n 0, 1) := by decide +kernel
theorem dX8_restore_14 : decode cX8_restore 14 = .ok (.getfield 10, 3) := by decide +kernel
theorem dX8_restore_17 : decode cX8_restore 17 = .ok (.aload_n 0, 1) := by decide +kernel
theorem dX8_restore_18 : decode cX8_restore 18 = .ok (.getfield 16, 3) := by decide +kernel
theorem dX8_restore_21 : decode cX8_restore 21 = .ok (.invokevirtual 208, 3) := by decide +kernel
theorem dX8_restore_24 : decode cX8_restore 24 = .ok (.aload_n 0, 1) := by decide +kernel
theorem dX8_restore_25 : decode cX8_restore 25 = .ok (.getfield 10, 3) := by decide +kernel
theorem dX8_restore_28 : decode cX8_restore 28 = .ok (.getfield 317, 3) := by decide +kernel
theorem dX8_restore_31 : decode cX8_restore 31 = .ok (.ireturn, 1) := by decide +kernel
theorem dX8_tell_0 : decode cX8_tell 0 = .ok (.aload_n 0, 1) := by decide +kernel
theorem dX8_tell_1 : decode cX8_tell 1 = .ok (.getfield 10, 3) := by decide +kernel
theorem dX8_tell_4 : decode cX8_tell 4 = .ok (.getfield 320, 3) := by decide +kernel
theorem dX8_tell_7 : decode cX8_tell 7 = .ok (.bipush 24, 2) := by decide +kernel
theorem dX8_tell_9 : decode cX8_tell 9 = .ok (.if_icmp .lt 9, 3) := by decide +kernel
theorem dX8_tell_12 : decode cX8_tell 12 = .ok (.aload_n 0, 1) := by decide +kernel
theorem dX8_tell_13 : decode cX8_tell 13 = .ok (.iconst 4, 1) := by decide +kernel
theorem dX8_tell_14 : decode cX8_tell 14 = .ok (.invokevirtual 62, 3) := by decide +kernel
theorem dX8_tell_17 : decode cX8_tell 17 = .ok (.ireturn, 1) := by decide +kernel
theorem dX8_tell_18 : decode cX8_tell 18 = .ok (.aload_n 0, 1) := by decide +kernel
theorem dX8_tell_19 : decode cX8_tell 19 = .ok (.getfield 10, 3) := by decide +kernel
theorem dX8_tell_22 : decode cX8_tell 22 = .ok (.getfield 323, 3) := by decide +kernel
theorem dX8_tell_25 : decode cX8_tell 25 = .ok (.aload_n 0, 1) := by decide +kernel
theorem dX8_tell_26 : decode cX8_tell 26 = .ok (.getfield 10, 3) := by decide +kernel
theorem dX8_tell_29 : decode cX8_tell 29 = .ok (.getfield 320, 3) := by decide +kernel
theorem dX8_tell_32 : decode cX8_tell 32 = .ok (.iload_n 1, 1) := by decide +kernel
theorem dX8_tell_33 : decode cX8_tell 33 = .ok (.iastore, 1) := by decide +kernel
theorem dX8_tell_34 : decode cX8_tell 34 = .ok (.aload_n 0, 1) := by decide +kernel
theorem dX8_tell_35 : decode cX8_tell 35 = .ok (.getfield 10, 3) := by decide +kernel
theorem dX8_tell_38 : decode cX8_tell 38 = .ok (.dup, 1) := by decide +kernel
theorem dX8_tell_39 : decode cX8_tell 39 = .ok (.getfield 320, 3) := by decide +kernel
theorem dX8_tell_42 : decode cX8_tell 42 = .ok (.iconst 1, 1) := by decide +kernel
theorem dX8_tell_43 : decode cX8_tell 43 = .ok (.iadd, 1) := by decide +kernel
theorem dX8_tell_44 : decode cX8_tell 44 = .ok (.putfield 320, 3) := by decide +kernel
theorem dX8_tell_47 : decode cX8_tell 47 = .ok (.aload_n 0, 1) := by decide +kernel
theorem dX8_tell_48 : decode cX8_tell 48 = .ok (.getfield 10, 3) := by decide +kernel
theorem dX8_tell_51 : decode cX8_tell 51 = .ok (.getfield 320, 3) := by decide +kernel
theorem dX8_tell_54 : decode cX8_tell 54 = .ok (.ireturn, 1) := by decide +kernel
theorem dX8_check_0 : decode cX8_check 0 = .ok (.aload_n 0, 1) := by decide +kernel
theorem dX8_check_1 : decode cX8_check 1 = .ok (.getfield 10, 3) := by decide +kernel
theorem dX8_check_4 : decode cX8_check 4 = .ok (.getfield 320, 3) := by decide +kernel
theorem dX8_check_7 : decode cX8_check 7 = .ok (.istore_n 1, 1) := by decide +kernel
theorem dX8_check_8 : decode cX8_check 8 = .ok (.aload_n 0, 1) := by decide +kernel
theorem dX8_check_9 : decode cX8_check 9 = .ok (.getfield 10, 3) := by decide +kernel
theorem dX8_check_12 : decode cX8_check 12 = .ok (.iconst 0, 1) := by decide +kernel
theorem dX8_check_13 : decode cX8_check 13 = .ok (.putfield 320, 3) := by decide +kernel
theorem dX8_check_16 : decode cX8_check 16 = .ok (.aload_n 0, 1) := by decide +kernel
theorem dX8_check_17 : decode cX8_check 17 = .ok (.getfield 19, 3) := by decide +kernel
theorem dX8_check_20 : decode cX8_check 20 = .ok (.aload_n 0, 1) := by decide +kernel
theorem dX8_check_21 : decode cX8_check 21 = .ok (.getfield 10, 3) := by decide +kernel
theorem dX8_check_24 : decode cX8_check 24 = .ok (.invokevirtual 208, 3) := by decide +kernel
theorem dX8_check_27 : decode cX8_check 27 = .ok (.iconst 0, 1) := by decide +kernel
theorem dX8_check_28 : decode cX8_check 28 = .ok (.istore_n 2, 1) := by decide +kernel
theorem dX8_check_29 : decode cX8_check 29 = .ok (.iload_n 2, 1) := by decide +kernel
theorem dX8_check_30 : decode cX8_check 30 = .ok (.iload_n 1, 1) := by decide +kernel
theorem dX8_check_31 : decode cX8_check 31 = .ok (.if_icmp .ge 41, 3) := by decide +kernel
theorem dX8_check_34 : decode cX8_check 34 = .ok (.aload_n 0, 1) := by decide +kernel
theorem dX8_check_35 : decode cX8_check 35 = .ok (.getfield 19, 3) := by decide +kernel
theorem dX8_check_38 : decode cX8_check 38 = .ok (.iconst 1, 1) := by decide +kernel
theorem dX8_check_39 : decode cX8_check 39 = .ok (.iconst 0, 1) := by decide +kernel
theorem dX8_check_40 : decode cX8_check 40 = .ok (.invokevirtual 198, 3) := by decide +kernel
theorem dX8_check_43 : decode cX8_check 43 = .ok (.aload_n 0, 1) := by decide +kernel
theorem dX8_check_44 : decode cX8_check 44 = .ok (.getfield 19, 3) := by decide +kernel
theorem dX8_check_47 : decode cX8_check 47 = .ok (.getfield 202, 3) := by decide +kernel
theorem dX8_check_50 : decode cX8_check 50 = .ok (.aload_n 0, 1) := by decide +kernel
theorem dX8_check_51 : decode cX8_check 51 = .ok (.getfield 10, 3) := by decide +kernel
theorem dX8_check_54 : decode cX8_check 54 = .ok (.getfield 323, 3) := by decide +kernel
theorem dX8_check_57 : decode cX8_check 57 = .ok (.iload_n 2, 1) := by decide +kernel
theorem dX8_check_58 : decode cX8_check 58 = .ok (.iaload, 1) := by decide +kernel
theorem dX8_check_59 : decode cX8_check 59 = .ok (.if_icmp .eq 7, 3) := by decide +kernel
theorem dX8_check_62 : decode cX8_check 62 = .ok (.iconst 1, 1) := by decide +kernel
theorem dX8_check_63 : decode cX8_check 63 = .ok (.iload_n 2, 1) := by decide +kernel
theorem dX8_check_64 : decode cX8_check 64 = .ok (.iadd, 1) := by decide +kernel
theorem dX8_check_65 : decode cX8_check 65 = .ok (.ireturn, 1) := by decide +kernel
theorem dX8_check_66 : decode cX8_check 66 = .ok (.iinc 2 1, 3) := by decide +kernel
theorem dX8_check_69 : decode cX8_check 69 = .ok (.goto (-40), 3) := by decide +kernel
theorem dX8_check_72 : decode cX8_check 72 = .ok (.iconst 0, 1) := by decide +kernel
theorem dX8_check_73 : decode cX8_check 73 = .ok (.ireturn, 1) := by decide +kernel
theorem dX8_count_0 : decode cX8_count 0 = .ok (.iload_n 1, 1) := by decide +kernel
theorem dX8_count_1 : decode cX8_count 1 = .ok (.tableswitch 147 0 10 #[59, 67, 75, 83, 91, 99, 107, 115, 123, 131, 139], 59) := by decide +kernel
theorem dX8_count_60 : decode cX8_count 60 = .ok (.aload_n 0, 1) := by decide +kernel
theorem dX8_count_61 : decode cX8_count 61 = .ok (.getfield 10, 3) := by decide +kernel
theorem dX8_count_64 : decode cX8_count 64 = .ok (.getfield 76, 3) := by decide +kernel
theorem dX8_count_67 : decode cX8_count 67 = .ok (.ireturn, 1) := by decide +kernel
theorem dX8_count_68 : decode cX8_count 68 = .ok (.aload_n 0, 1) := by decide +kernel
theorem dX8_count_69 : decode cX8_count 69 = .ok (.getfield 10, 3) := by decide +kernel
theorem dX8_count_72 : decode cX8_count 72 = .ok (.getfield 121, 3) := by decide +kernel
theorem dX8_count_75 : decode cX8_count 75 = .ok (.ireturn, 1) := by decide +kernel
theorem dX8_count_76 : decode cX8_count 76 = .ok (.aload_n 0, 1) := by decide +kernel
theorem dX8_count_77 : decode cX8_count 77 = .ok (.getfield 10, 3) := by decide +kernel
theorem dX8_count_80 : decode cX8_count 80 = .ok (.getfield 317, 3) := by decide +kernel
theorem dX8_count_83 : decode cX8_count 83 = .ok (.ireturn, 1) := by decide +kernel
theorem dX8_count_84 : decode cX8_count 84 = .ok (.aload_n 0, 1) := by decide +kernel
theorem dX8_count_85 : decode cX8_count 85 = .ok (.getfield 10, 3) := by decide +kernel
theorem dX8_count_88 : decode cX8_count 88 = .ok (.getfield 202, 3) := by decide +kernel
theorem dX8_count_91 : decode cX8_count 91 = .ok (.ireturn, 1) := by decide +kernel
theorem dX8_count_92 : decode cX8_count 92 = .ok (.aload_n 0, 1) := by decide +kernel
theorem dX8_count_93 : decode cX8_count 93 = .ok (.getfield 10, 3) := by decide +kernel
theorem dX8_count_96 : decode cX8_count 96 = .ok (.getfield 69, 3) := by decide +kernel
theorem dX8_count_99 : decode cX8_count 99 = .ok (.ireturn, 1) := by decide +kernel
theorem dX8_count_100 : decode cX8_count 100 = .ok (.aload_n 0, 1) := by decide +kernel
theorem dX8_count_101 : decode cX8_count 101 = .ok (.getfield 10, 3) := by decide +kernel
theorem dX8_count_104 : decode cX8_count 104 = .ok (.getfield 73, 3) := by decide +kernel
theorem dX8_count_107 : decode cX8_count 107 = .ok (.ireturn, 1) := by decide +kernel
theorem dX8_count_108 : decode cX8_count 108 = .ok (.aload_n 0, 1) := by decide +kernel
theorem dX8_count_109 : decode cX8_count 109 = .ok (.getfield 10, 3) := by decide +kernel
theorem dX8_count_112 : decode cX8_count 112 = .ok (.invokevirtual 326, 3) := by decide +kernel
theorem dX8_count_115 : decode cX8_count 115 = .ok (.ireturn, 1) := by decide +kernel
theorem dX8_count_116 : decode cX8_count 116 = .ok (.aload_n 0, 1) := by decide +kernel
theorem dX8_count_117 : decode cX8_count 117 = .ok (.getfield 10, 3) := by decide +kernel
theorem dX8_count_120 : decode cX8_count 120 = .ok (.getfield 149, 3) := by decide +kernel
theorem dX8_count_123 : decode cX8_count 123 = .ok (.ireturn, 1) := by decide +kernel
theorem dX8_count_124 : decode cX8_count 124 = .ok (.aload_n 0, 1) := by decide +kernel
theorem dX8_count_125 : decode cX8_count 125 = .ok (.getfield 10, 3) := by decide +kernel
theorem dX8_count_128 : decode cX8_count 128 = .ok (.getfield 320, 3) := by decide +kernel
theorem dX8_count_131 : decode cX8_count 131 = .ok (.ireturn, 1) := by decide +kernel
theorem dX8_count_132 : decode cX8_count 132 = .ok (.aload_n 0, 1) := by decide +kernel
theorem dX8_count_133 : decode cX8_count 133 = .ok (.getfield 38, 3) := by decide +kernel
theorem dX8_count_136 : decode cX8_count 136 = .ok (.getfield 258, 3) := by decide +kernel
theorem dX8_count_139 : decode cX8_count 139 = .ok (.ireturn, 1) := by decide +kernel
theorem dX8_count_140 : decode cX8_count 140 = .ok (.aload_n 0, 1) := by decide +kernel
theorem dX8_count_141 : decode cX8_count 141 = .ok (.getfield 10, 3) := by decide +kernel
theorem dX8_count_144 : decode cX8_count 144 = .ok (.getfield 205, 3) := by decide +kernel
theorem dX8_count_147 : decode cX8_count 147 = .ok (.ireturn, 1) := by decide +kernel
theorem dX8_count_148 : decode cX8_count 148 = .ok (.iload_n 1, 1) := by decide +kernel
theorem dX8_count_149 : decode cX8_count 149 = .ok (.bipush 11, 2) := by decide +kernel
theorem dX8_count_151 : decode cX8_count 151 = .ok (.isub, 1) := by decide +kernel
theorem dX8_count_152 : decode cX8_count 152 = .ok (.invokestatic 54, 3) := by decide +kernel
theorem dX8_count_155 : decode cX8_count 155 = .ok (.ifCond .eq 18, 3) := by decide +kernel
theorem dX8_count_158 : decode cX8_count 158 = .ok (.aload_n 0, 1) := by decide +kernel
theorem dX8_count_159 : decode cX8_count 159 = .ok (.getfield 10, 3) := by decide +kernel
theorem dX8_count_162 : decode cX8_count 162 = .ok (.getfield 66, 3) := by decide +kernel
theorem dX8_count_165 : decode cX8_count 165 = .ok (.iload_n 1, 1) := by decide +kernel
theorem dX8_count_166 : decode cX8_count 166 = .ok (.bipush 11, 2) := by decide +kernel
theorem dX8_count_168 : decode cX8_count 168 = .ok (.isub, 1) := by decide +kernel
theorem dX8_count_169 : decode cX8_count 169 = .ok (.iaload, 1) := by decide +kernel
theorem dX8_count_170 : decode cX8_count 170 = .ok (.goto 8, 3) := by decide +kernel
theorem dX8_count_173 : decode cX8_count 173 = .ok (.aload_n 0, 1) := by decide +kernel
theorem dX8_count_174 : decode cX8_count 174 = .ok (.iconst 1, 1) := by decide +kernel
theorem dX8_count_175 : decode cX8_count 175 = .ok (.invokevirtual 62, 3) := by decide +kernel
theorem dX8_count_178 : decode cX8_count 178 = .ok (.ireturn, 1) := by decide +kernel
theorem dX8_told_0 : decode cX8_told 0 = .ok (.iload_n 1, 1) := by decide +kernel
theorem dX8_told_1 : decode cX8_told 1 = .ok (.iconst 1, 1) := by decide +kernel
theorem dX8_told_2 : decode cX8_told 2 = .ok (.bipush 6, 2) := by decide +kernel
theorem dX8_told_4 : decode cX8_told 4 = .ok (.invokestatic 58, 3) := by decide +kernel
theorem dX8_told_7 : decode cX8_told 7 = .ok (.ifCond .eq 12, 3) := by decide +kernel
theorem dX8_told_10 : decode cX8_told 10 = .ok (.aload_n 0, 1) := by decide +kernel
theorem dX8_told_11 : decode cX8_told 11 = .ok (.getfield 49, 3) := by decide +kernel
theorem dX8_told_14 : decode cX8_told 14 = .ok (.iload_n 1, 1) := by decide +kernel
theorem dX8_told_15 : decode cX8_told 15 = .ok (.iaload, 1) := by decide +kernel
theorem dX8_told_16 : decode cX8_told 16 = .ok (.goto 8, 3) := by decide +kernel
theorem dX8_told_19 : decode cX8_told 19 = .ok (.aload_n 0, 1) := by decide +kernel
theorem dX8_told_20 : decode cX8_told 20 = .ok (.iconst 1, 1) := by decide +kernel
theorem dX8_told_21 : decode cX8_told 21 = .ok (.invokevirtual 62, 3) := by decide +kernel
theorem dX8_told_24 : decode cX8_told 24 = .ok (.ireturn, 1) := by decide +kernel
theorem dX8_error_0 : decode cX8_error 0 = .ok (.aload_n 0, 1) := by decide +kernel
theorem dX8_error_1 : decode cX8_error 1 = .ok (.getfield 49, 3) := by decide +kernel
theorem dX8_error_4 : decode cX8_error 4 = .ok (.iload_n 1, 1) := by decide +kernel
theorem dX8_error_5 : decode cX8_error 5 = .ok (.dup2, 1) := by decide +kernel
theorem dX8_error_6 : decode cX8_error 6 = .ok (.iaload, 1) := by decide +kernel
theorem dX8_error_7 : decode cX8_error 7 = .ok (.iconst 1, 1) := by decide +kernel
theorem dX8_error_8 : decode cX8_error 8 = .ok (.iadd, 1) := by decide +kernel
theorem dX8_error_9 : decode cX8_error 9 = .ok (.iastore, 1) := by decide +kernel
theorem dX8_error_10 : decode cX8_error 10 = .ok (.ldc_w 329, 3) := by decide +kernel
theorem dX8_error_13 : decode cX8_error 13 = .ok (.iload_n 1, 1) := by decide +kernel
theorem dX8_error_14 : decode cX8_error 14 = .ok (.isub, 1) := by decide +kernel
theorem dX8_error_15 : decode cX8_error 15 = .ok (.ireturn, 1) := by decide +kernel
theorem dX8_daysRefusal_0 : decode cX8_daysRefusal 0 = .ok (.iload_n 1, 1) := by decide +kernel
theorem dX8_daysRefusal_1 : decode cX8_daysRefusal 1 = .ok (.iconst 1, 1) := by decide +kernel
theorem dX8_daysRefusal_2 : decode cX8_daysRefusal 2 = .ok (.bipush 60, 2) := by decide +kernel
theorem dX8_daysRefusal_4 : decode cX8_daysRefusal 4 = .ok (.invokestatic 58, 3) := by decide +kernel
theorem dX8_daysRefusal_7 : decode cX8_daysRefusal 7 = .ok (.ifCond .ne 5, 3) := by decide +kernel
theorem dX8_daysRefusal_10 : decode cX8_daysRefusal 10 = .ok (.iconst 1, 1) := by decide +kernel
theorem dX8_daysRefusal_11 : decode cX8_daysRefusal 11 = .ok (.ireturn, 1) := by decide +kernel
theorem dX8_daysRefusal_12 : decode cX8_daysRefusal 12 = .ok (.aload_n 0, 1) := by decide +kernel
theorem dX8_daysRefusal_13 : decode cX8_daysRefusal 13 = .ok (.getfield 10, 3) := by decide +kernel
theorem dX8_daysRefusal_16 : decode cX8_daysRefusal 16 = .ok (.getfield 317, 3) := by decide +kernel
theorem dX8_daysRefusal_19 : decode cX8_daysRefusal 19 = .ok (.iload_n 1, 1) := by decide +kernel
theorem dX8_daysRefusal_20 : decode cX8_daysRefusal 20 = .ok (.iadd, 1) := by decide +kernel
theorem dX8_daysRefusal_21 : decode cX8_daysRefusal 21 = .ok (.sipush 9999, 3) := by decide +kernel
theorem dX8_daysRefusal_24 : decode cX8_daysRefusal 24 = .ok (.if_icmp .le 7, 3) := by decide +kernel
theorem dX8_daysRefusal_27 : decode cX8_daysRefusal 27 = .ok (.iconst 3, 1) := by decide +kernel
theorem dX8_daysRefusal_28 : decode cX8_daysRefusal 28 = .ok (.goto 4, 3) := by decide +kernel
theorem dX8_daysRefusal_31 : decode cX8_daysRefusal 31 = .ok (.iconst 0, 1) := by decide +kernel
theorem dX8_daysRefusal_32 : decode cX8_daysRefusal 32 = .ok (.ireturn, 1) := by decide +kernel
theorem dX8_sheetRefusal_0 : decode cX8_sheetRefusal 0 = .ok (.iload_n 1, 1) := by decide +kernel
theorem dX8_sheetRefusal_1 : decode cX8_sheetRefusal 1 = .ok (.invokestatic 264, 3) := by decide +kernel
theorem dX8_sheetRefusal_4 : decode cX8_sheetRefusal 4 = .ok (.ifCond .ne 5, 3) := by decide +kernel
theorem dX8_sheetRefusal_7 : decode cX8_sheetRefusal 7 = .ok (.iconst 1, 1) := by decide +kernel
theorem dX8_sheetRefusal_8 : decode cX8_sheetRefusal 8 = .ok (.ireturn, 1) := by decide +kernel
theorem dX8_sheetRefusal_9 : decode cX8_sheetRefusal 9 = .ok (.aload_n 0, 1) := by decide +kernel
theorem dX8_sheetRefusal_10 : decode cX8_sheetRefusal 10 = .ok (.getfield 24, 3) := by decide +kernel
theorem dX8_sheetRefusal_13 : decode cX8_sheetRefusal 13 = .ok (.iload_n 1, 1) := by decide +kernel
theorem dX8_sheetRefusal_14 : decode cX8_sheetRefusal 14 = .ok (.aaload, 1) := by decide +kernel
theorem dX8_sheetRefusal_15 : decode cX8_sheetRefusal 15 = .ok (.invokevirtual 270, 3) := by decide +kernel
theorem dX8_sheetRefusal_18 : decode cX8_sheetRefusal 18 = .ok (.ifCond .eq 7, 3) := by decide +kernel
theorem dX8_sheetRefusal_21 : decode cX8_sheetRefusal 21 = .ok (.iconst 2, 1) := by decide +kernel
theorem dX8_sheetRefusal_22 : decode cX8_sheetRefusal 22 = .ok (.goto 4, 3) := by decide +kernel
theorem dX8_sheetRefusal_25 : decode cX8_sheetRefusal 25 = .ok (.iconst 0, 1) := by decide +kernel
theorem dX8_sheetRefusal_26 : decode cX8_sheetRefusal 26 = .ok (.ireturn, 1) := by decide +kernel
theorem dX8_within_0 : decode cX8_within 0 = .ok (.iload_n 0, 1) := by decide +kernel
theorem dX8_within_1 : decode cX8_within 1 = .ok (.iload_n 1, 1) := by decide +kernel
theorem dX8_within_2 : decode cX8_within 2 = .ok (.if_icmp .lt 12, 3) := by decide +kernel
theorem dX8_within_5 : decode cX8_within 5 = .ok (.iload_n 0, 1) := by decide +kernel
theorem dX8_within_6 : decode cX8_within 6 = .ok (.iload_n 2, 1) := by decide +kernel
theorem dX8_within_7 : decode cX8_within 7 = .ok (.if_icmp .gt 7, 3) := by decide +kernel
theorem dX8_within_10 : decode cX8_within 10 = .ok (.iconst 1, 1) := by decide +kernel
theorem dX8_within_11 : decode cX8_within 11 = .ok (.goto 4, 3) := by decide +kernel
theorem dX8_within_14 : decode cX8_within 14 = .ok (.iconst 0, 1) := by decide +kernel
theorem dX8_within_15 : decode cX8_within 15 = .ok (.ireturn, 1) := by decide +kernel
theorem dX8_hold_0 : decode cX8_hold 0 = .ok (.iload_n 0, 1) := by decide +kernel
theorem dX8_hold_1 : decode cX8_hold 1 = .ok (.iload_n 1, 1) := by decide +kernel
theorem dX8_hold_2 : decode cX8_hold 2 = .ok (.if_icmp .ge 5, 3) := by decide +kernel
theorem dX8_hold_5 : decode cX8_hold 5 = .ok (.iload_n 1, 1) := by decide +kernel
theorem dX8_hold_6 : decode cX8_hold 6 = .ok (.ireturn, 1) := by decide +kernel
theorem dX8_hold_7 : decode cX8_hold 7 = .ok (.iload_n 0, 1) := by decide +kernel
theorem dX8_hold_8 : decode cX8_hold 8 = .ok (.iload_n 2, 1) := by decide +kernel
theorem dX8_hold_9 : decode cX8_hold 9 = .ok (.if_icmp .le 7, 3) := by decide +kernel
theorem dX8_hold_12 : decode cX8_hold 12 = .ok (.iload_n 2, 1) := by decide +kernel
theorem dX8_hold_13 : decode cX8_hold 13 = .ok (.goto 4, 3) := by decide +kernel
theorem dX8_hold_16 : decode cX8_hold 16 = .ok (.iload_n 0, 1) := by decide +kernel
theorem dX8_hold_17 : decode cX8_hold 17 = .ok (.ireturn, 1) := by decide +kernel
theorem dX8_isGood_0 : decode cX8_isGood 0 = .ok (.iload_n 0, 1) := by decide +kernel
theorem dX8_isGood_1 : decode cX8_isGood 1 = .ok (.iconst 0, 1) := by decide +kernel
theorem dX8_isGood_2 : decode cX8_isGood 2 = .ok (.iconst 5, 1) := by decide +kernel
theorem dX8_isGood_3 : decode cX8_isGood 3 = .ok (.invokestatic 58, 3) := by decide +kernel
theorem dX8_isGood_6 : decode cX8_isGood 6 = .ok (.ireturn, 1) := by decide +kernel
theorem dX8_isUse_0 : decode cX8_isUse 0 = .ok (.iload_n 0, 1) := by decide +kernel
theorem dX8_isUse_1 : decode cX8_isUse 1 = .ok (.iconst 0, 1) := by decide +kernel
theorem dX8_isUse_2 : decode cX8_isUse 2 = .ok (.iconst 1, 1) := by decide +kernel
theorem dX8_isUse_3 : decode cX8_isUse 3 = .ok (.invokestatic 58, 3) := by decide +kernel
theorem dX8_isUse_6 : decode cX8_isUse 6 = .ok (.ireturn, 1) := by decide +kernel
theorem dX8_isSheet_0 : decode cX8_isSheet 0 = .ok (.iload_n 0, 1) := by decide +kernel
theorem dX8_isSheet_1 : decode cX8_isSheet 1 = .ok (.iconst 0, 1) := by decide +kernel
theorem dX8_isSheet_2 : decode cX8_isSheet 2 = .ok (.iconst 3, 1) := by decide +kernel
theorem dX8_isSheet_3 : decode cX8_isSheet 3 = .ok (.invokestatic 58, 3) := by decide +kernel
theorem dX8_isSheet_6 : decode cX8_isSheet 6 = .ok (.ireturn, 1) := by decide +kernel
theorem dX8_isCustomer_0 : decode cX8_isCustomer 0 = .ok (.iload_n 1, 1) := by decide +kernel
theorem dX8_isCustomer_1 : decode cX8_isCustomer 1 = .ok (.bipush 10, 2) := by decide +kernel
theorem dX8_isCustomer_3 : decode cX8_isCustomer 3 = .ok (.bipush 121, 2) := by decide +kernel
theorem dX8_isCustomer_5 : decode cX8_isCustomer 5 = .ok (.invokestatic 58, 3) := by decide +kernel
theorem dX8_isCustomer_8 : decode cX8_isCustomer 8 = .ok (.ifCond .eq 15, 3) := by decide +kernel
theorem dX8_isCustomer_11 : decode cX8_isCustomer 11 = .ok (.iload_n 1, 1) := by decide +kernel
theorem dX8_isCustomer_12 : decode cX8_isCustomer 12 = .ok (.bipush 10, 2) := by decide +kernel
theorem dX8_isCustomer_14 : decode cX8_isCustomer 14 = .ok (.irem, 1) := by decide +kernel
theorem dX8_isCustomer_15 : decode cX8_isCustomer 15 = .ok (.iconst 1, 1) := by decide +kernel
theorem dX8_isCustomer_16 : decode cX8_isCustomer 16 = .ok (.if_icmp .gt 7, 3) := by decide +kernel
theorem dX8_isCustomer_19 : decode cX8_isCustomer 19 = .ok (.iconst 1, 1) := by decide +kernel
theorem dX8_isCustomer_20 : decode cX8_isCustomer 20 = .ok (.goto 4, 3) := by decide +kernel
theorem dX8_isCustomer_23 : decode cX8_isCustomer 23 = .ok (.iconst 0, 1) := by decide +kernel
theorem dX8_isCustomer_24 : decode cX8_isCustomer 24 = .ok (.istore_n 3, 1) := by decide +kernel
theorem dX8_isCustomer_25 : decode cX8_isCustomer 25 = .ok (.iload_n 0, 1) := by decide +kernel
theorem dX8_isCustomer_26 : decode cX8_isCustomer 26 = .ok (.iconst 0, 1) := by decide +kernel
theorem dX8_isCustomer_27 : decode cX8_isCustomer 27 = .ok (.bipush 63, 2) := by decide +kernel
theorem dX8_isCustomer_29 : decode cX8_isCustomer 29 = .ok (.invokestatic 58, 3) := by decide +kernel
theorem dX8_isCustomer_32 : decode cX8_isCustomer 32 = .ok (.ifCond .eq 22, 3) := by decide +kernel
theorem dX8_isCustomer_35 : decode cX8_isCustomer 35 = .ok (.iload_n 3, 1) := by decide +kernel
theorem dX8_isCustomer_36 : decode cX8_isCustomer 36 = .ok (.ifCond .eq 18, 3) := by decide +kernel
theorem dX8_isCustomer_39 : decode cX8_isCustomer 39 = .ok (.iload_n 2, 1) := by decide +kernel
theorem dX8_isCustomer_40 : decode cX8_isCustomer 40 = .ok (.iconst 0, 1) := by decide +kernel
theorem dX8_isCustomer_41 : decode cX8_isCustomer 41 = .ok (.sipush 999, 3) := by decide +kernel
theorem dX8_isCustomer_44 : decode cX8_isCustomer 44 = .ok (.invokestatic 58, 3) := by decide +kernel
theorem dX8_isCustomer_47 : decode cX8_isCustomer 47 = .ok (.ifCond .eq 7, 3) := by decide +kernel
theorem dX8_isCustomer_50 : decode cX8_isCustomer 50 = .ok (.iconst 1, 1) := by decide +kernel
theorem dX8_isCustomer_51 : decode cX8_isCustomer 51 = .ok (.goto 4, 3) := by decide +kernel
theorem dX8_isCustomer_54 : decode cX8_isCustomer 54 = .ok (.iconst 0, 1) := by decide +kernel
theorem dX8_isCustomer_55 : decode cX8_isCustomer 55 = .ok (.ireturn, 1) := by decide +kernel
theorem dX8_isUnder_0 : decode cX8_isUnder 0 = .ok (.iload_n 0, 1) := by decide +kernel
theorem dX8_isUnder_1 : decode cX8_isUnder 1 = .ok (.istore_n 2, 1) := by decide +kernel
theorem dX8_isUnder_2 : decode cX8_isUnder 2 = .ok (.iconst 0, 1) := by decide +kernel
theorem dX8_isUnder_3 : decode cX8_isUnder 3 = .ok (.istore_n 3, 1) := by decide +kernel
theorem dX8_isUnder_4 : decode cX8_isUnder 4 = .ok (.iload_n 3, 1) := by decide +kernel
theorem dX8_isUnder_5 : decode cX8_isUnder 5 = .ok (.bipush 7, 2) := by decide +kernel
theorem dX8_isUnder_7 : decode cX8_isUnder 7 = .ok (.if_icmp .ge 32, 3) := by decide +kernel
theorem dX8_isUnder_10 : decode cX8_isUnder 10 = .ok (.iload_n 2, 1) := by decide +kernel
theorem dX8_isUnder_11 : decode cX8_isUnder 11 = .ok (.iconst 0, 1) := by decide +kernel
theorem dX8_isUnder_12 : decode cX8_isUnder 12 = .ok (.bipush 6, 2) := by decide +kernel
theorem dX8_isUnder_14 : decode cX8_isUnder 14 = .ok (.invokestatic 58, 3) := by decide +kernel
theorem dX8_isUnder_17 : decode cX8_isUnder 17 = .ok (.ifCond .eq 22, 3) := by decide +kernel
theorem dX8_isUnder_20 : decode cX8_isUnder 20 = .ok (.iload_n 2, 1) := by decide +kernel
theorem dX8_isUnder_21 : decode cX8_isUnder 21 = .ok (.iload_n 1, 1) := by decide +kernel
theorem dX8_isUnder_22 : decode cX8_isUnder 22 = .ok (.if_icmp .ne 5, 3) := by decide +kernel
theorem dX8_isUnder_25 : decode cX8_isUnder 25 = .ok (.iconst 1, 1) := by decide +kernel
theorem dX8_isUnder_26 : decode cX8_isUnder 26 = .ok (.ireturn, 1) := by decide +kernel
theorem dX8_isUnder_27 : decode cX8_isUnder 27 = .ok (.getstatic 330, 3) := by decide +kernel
theorem dX8_isUnder_30 : decode cX8_isUnder 30 = .ok (.iload_n 2, 1) := by decide +kernel
theorem dX8_isUnder_31 : decode cX8_isUnder 31 = .ok (.iaload, 1) := by decide +kernel
theorem dX8_isUnder_32 : decode cX8_isUnder 32 = .ok (.istore_n 2, 1) := by decide +kernel
theorem dX8_isUnder_33 : decode cX8_isUnder 33 = .ok (.iinc 3 1, 3) := by decide +kernel
theorem dX8_isUnder_36 : decode cX8_isUnder 36 = .ok (.goto (-32), 3) := by decide +kernel
theorem dX8_isUnder_39 : decode cX8_isUnder 39 = .ok (.iconst 0, 1) := by decide +kernel
theorem dX8_isUnder_40 : decode cX8_isUnder 40 = .ok (.ireturn, 1) := by decide +kernel
theorem dX8_mostOf_0 : decode cX8_mostOf 0 = .ok (.iload_n 0, 1) := by decide +kernel
theorem dX8_mostOf_1 : decode cX8_mostOf 1 = .ok (.ifCond .ne 6, 3) := by decide +kernel
theorem dX8_mostOf_4 : decode cX8_mostOf 4 = .ok (.bipush 6, 2) := by decide +kernel
theorem dX8_mostOf_6 : decode cX8_mostOf 6 = .ok (.ireturn, 1) := by decide +kernel
theorem dX8_mostOf_7 : decode cX8_mostOf 7 = .ok (.iload_n 0, 1) := by decide +kernel
theorem dX8_mostOf_8 : decode cX8_mostOf 8 = .ok (.iconst 1, 1) := by decide +kernel
theorem dX8_mostOf_9 : decode cX8_mostOf 9 = .ok (.if_icmp .ne 6, 3) := by decide +kernel
theorem dX8_mostOf_12 : decode cX8_mostOf 12 = .ok (.bipush 9, 2) := by decide +kernel
theorem dX8_mostOf_14 : decode cX8_mostOf 14 = .ok (.ireturn, 1) := by decide +kernel
theorem dX8_mostOf_15 : decode cX8_mostOf 15 = .ok (.iload_n 0, 1) := by decide +kernel
theorem dX8_mostOf_16 : decode cX8_mostOf 16 = .ok (.iconst 3, 1) := by decide +kernel
theorem dX8_mostOf_17 : decode cX8_mostOf 17 = .ok (.bipush 8, 2) := by decide +kernel
theorem dX8_mostOf_19 : decode cX8_mostOf 19 = .ok (.invokestatic 58, 3) := by decide +kernel
theorem dX8_mostOf_22 : decode cX8_mostOf 22 = .ok (.ifCond .eq 6, 3) := by decide +kernel
theorem dX8_mostOf_25 : decode cX8_mostOf 25 = .ok (.bipush 9, 2) := by decide +kernel
theorem dX8_mostOf_27 : decode cX8_mostOf 27 = .ok (.ireturn, 1) := by decide +kernel
theorem dX8_mostOf_28 : decode cX8_mostOf 28 = .ok (.iload_n 0, 1) := by decide +kernel
theorem dX8_mostOf_29 : decode cX8_mostOf 29 = .ok (.bipush 9, 2) := by decide +kernel
theorem dX8_mostOf_31 : decode cX8_mostOf 31 = .ok (.bipush 14, 2) := by decide +kernel
theorem dX8_mostOf_33 : decode cX8_mostOf 33 = .ok (.invokestatic 58, 3) := by decide +kernel
theorem dX8_mostOf_36 : decode cX8_mostOf 36 = .ok (.ifCond .eq 8, 3) := by decide +kernel
theorem dX8_mostOf_39 : decode cX8_mostOf 39 = .ok (.bipush 99, 2) := by decide +kernel
theorem dX8_mostOf_41 : decode cX8_mostOf 41 = .ok (.goto 4, 3) := by decide +kernel
theorem dX8_mostOf_44 : decode cX8_mostOf 44 = .ok (.iconst (-1), 1) := by decide +kernel
theorem dX8_mostOf_45 : decode cX8_mostOf 45 = .ok (.ireturn, 1) := by decide +kernel
end
section
theorem dX9_init_0 : decode cX9_init 0 = .ok (.aload_n 0, 1) := by decide +kernel
theorem dX9_init_1 : decode cX9_init 1 = .ok (.invokespecial 1, 3) := by decide +kernel
theorem dX9_init_4 : decode cX9_init 4 = .ok (.aload_n 0, 1) := by decide +kernel
theorem dX9_init_5 : decode cX9_init 5 = .ok (.sipush 516, 3) := by decide +kernel
theorem dX9_init_8 : decode cX9_init 8 = .ok (.newarray .int, 2) := by decide +kernel
theorem dX9_init_10 : decode cX9_init 10 = .ok (.putfield 7, 3) := by decide +kernel
theorem dX9_init_13 : decode cX9_init 13 = .ok (.aload_n 0, 1) := by decide +kernel
theorem dX9_init_14 : decode cX9_init 14 = .ok (.sipush 516, 3) := by decide +kernel
theorem dX9_init_17 : decode cX9_init 17 = .ok (.newarray .int, 2) := by decide +kernel
theorem dX9_init_19 : decode cX9_init 19 = .ok (.putfield 13, 3) := by decide +kernel
theorem dX9_init_22 : decode cX9_init 22 = .ok (.aload_n 0, 1) := by decide +kernel
theorem dX9_init_23 : decode cX9_init 23 = .ok (.sipush 516, 3) := by decide +kernel
theorem dX9_init_26 : decode cX9_init 26 = .ok (.newarray .int, 2) := by decide +kernel
theorem dX9_init_28 : decode cX9_init 28 = .ok (.putfield 16, 3) := by decide +kernel
theorem dX9_init_31 : decode cX9_init 31 = .ok (.aload_n 0, 1) := by decide +kernel
theorem dX9_init_32 : decode cX9_init 32 = .ok (.bipush 7, 2) := by decide +kernel
theorem dX9_init_34 : decode cX9_init 34 = .ok (.newarray .int, 2) := by decide +kernel
theorem dX9_init_36 : decode cX9_init 36 = .ok (.putfield 19, 3) := by decide +kernel
theorem dX9_init_39 : decode cX9_init 39 = .ok (.aload_n 0, 1) := by decide +kernel
theorem dX9_init_40 : decode cX9_init 40 = .ok (.bipush 124, 2) := by decide +kernel
theorem dX9_init_42 : decode cX9_init 42 = .ok (.newarray .int, 2) := by decide +kernel
theorem dX9_init_44 : decode cX9_init 44 = .ok (.putfield 22, 3) := by decide +kernel
theorem dX9_init_47 : decode cX9_init 47 = .ok (.aload_n 0, 1) := by decide +kernel
theorem dX9_init_48 : decode cX9_init 48 = .ok (.sipush 128, 3) := by decide +kernel
theorem dX9_init_51 : decode cX9_init 51 = .ok (.newarray .int, 2) := by decide +kernel
theorem dX9_init_53 : decode cX9_init 53 = .ok (.putfield 25, 3) := by decide +kernel
theorem dX9_init_56 : decode cX9_init 56 = .ok (.aload_n 0, 1) := by decide +kernel
theorem dX9_init_57 : decode cX9_init 57 = .ok (.bipush 64, 2) := by decide +kernel
theorem dX9_init_59 : decode cX9_init 59 = .ok (.newarray .int, 2) := by decide +kernel
theorem dX9_init_61 : decode cX9_init 61 = .ok (.putfield 28, 3) := by decide +kernel
theorem dX9_init_64 : decode cX9_init 64 = .ok (.aload_n 0, 1) := by decide +kernel
theorem dX9_init_65 : decode cX9_init 65 = .ok (.bipush 30, 2) := by decide +kernel
theorem dX9_init_67 : decode cX9_init 67 = .ok (.newarray .int, 2) := by decide +kernel
theorem dX9_init_69 : decode cX9_init 69 = .ok (.putfield 31, 3) := by decide +kernel
theorem dX9_init_72 : decode cX9_init 72 = .ok (.aload_n 0, 1) := by decide +kernel
theorem dX9_init_73 : decode cX9_init 73 = .ok (.iconst 4, 1) := by decide +kernel
theorem dX9_init_74 : decode cX9_init 74 = .ok (.newarray .int, 2) := by decide +kernel
theorem dX9_init_76 : decode cX9_init 76 = .ok (.putfield 34, 3) := by decide +kernel
theorem dX9_init_79 : decode cX9_init 79 = .ok (.aload_n 0, 1) := by decide +kernel
theorem dX9_init_80 : decode cX9_init 80 = .ok (.iconst 4, 1) := by decide +kernel
theorem dX9_init_81 : decode cX9_init 81 = .ok (.newarray .int, 2) := by decide +kernel
theorem dX9_init_83 : decode cX9_init 83 = .ok (.putfield 37, 3) := by decide +kernel
theorem dX9_init_86 : decode cX9_init 86 = .ok (.aload_n 0, 1) := by decide +kernel
theorem dX9_init_87 : decode cX9_init 87 = .ok (.bipush 96, 2) := by decide +kernel
theorem dX9_init_89 : decode cX9_init 89 = .ok (.newarray .int, 2) := by decide +kernel
theorem dX9_init_91 : decode cX9_init 91 = .ok (.putfield 40, 3) := by decide +kernel
theorem dX9_init_94 : decode cX9_init 94 = .ok (.aload_n 0, 1) := by decide +kernel
theorem dX9_init_95 : decode cX9_init 95 = .ok (.bipush 24, 2) := by decide +kernel
theorem dX9_init_97 : decode cX9_init 97 = .ok (.newarray .int, 2) := by decide +kernel
theorem dX9_init_99 : decode cX9_init 99 = .ok (.putfield 43, 3) := by decide +kernel
theorem dX9_init_102 : decode cX9_init 102 = .ok (.aload_n 0, 1) := by decide +kernel
theorem dX9_init_103 : decode cX9_init 103 = .ok (.getfield 7, 3) := by decide +kernel
theorem dX9_init_106 : decode cX9_init 106 = .ok (.bipush 8, 2) := by decide +kernel
theorem dX9_init_108 : decode cX9_init 108 = .ok (.iconst 1, 1) := by decide +kernel
theorem dX9_init_109 : decode cX9_init 109 = .ok (.iastore, 1) := by decide +kernel
theorem dX9_init_110 : decode cX9_init 110 = .ok (.iconst 0, 1) := by decide +kernel
theorem dX9_init_111 : decode cX9_init 111 = .ok (.istore_n 1, 1) := by decide +kernel
theorem dX9_init_112 : decode cX9_init 112 = .ok (.iload_n 1, 1) := by decide +kernel
theorem dX9_init_113 : decode cX9_init 113 = .ok (.bipush 6, 2) := by decide +kernel
theorem dX9_init_115 : decode cX9_init 115 = .ok (.if_icmp .ge 19, 3) := by decide +kernel
theorem dX9_init_118 : decode cX9_init 118 = .ok (.aload_n 0, 1) := by decide +kernel
theorem dX9_init_119 : decode cX9_init 119 = .ok (.getfield 7, 3) := by decide +kernel
theorem dX9_init_122 : decode cX9_init 122 = .ok (.bipush 10, 2) := by decide +kernel
theorem dX9_init_124 : decode cX9_init 124 = .ok (.iload_n 1, 1) := by decide +kernel
theorem dX9_init_125 : decode cX9_init 125 = .ok (.iadd, 1) := by decide +kernel
theorem dX9_init_126 : decode cX9_init 126 = .ok (.iconst 5, 1) := by decide +kernel
theorem dX9_init_127 : decode cX9_init 127 = .ok (.iastore, 1) := by decide +kernel
theorem dX9_init_128 : decode cX9_init 128 = .ok (.iinc 1 1, 3) := by decide +kernel
theorem dX9_init_131 : decode cX9_init 131 = .ok (.goto (-19), 3) := by decide +kernel
theorem dX9_init_134 : decode cX9_init 134 = .ok (.return_, 1) := by decide +kernel
theorem dX9_error_0 : decode cX9_error 0 = .ok (.aload_n 0, 1) := by decide +kernel
theorem dX9_error_1 : decode cX9_error 1 = .ok (.getfield 19, 3) := by decide +kernel
theorem dX9_error_4 : decode cX9_error 4 = .ok (.iload_n 1, 1) := by decide +kernel
theorem dX9_error_5 : decode cX9_error 5 = .ok (.dup2, 1) := by decide +kernel
theorem dX9_error_6 : decode cX9_error 6 = .ok (.iaload, 1) := by decide +kernel
theorem dX9_error_7 : decode cX9_error 7 = .ok (.iconst 1, 1) := by decide +kernel
theorem dX9_error_8 : decode cX9_error 8 = .ok (.iadd, 1) := by decide +kernel
theorem dX9_error_9 : decode cX9_error 9 = .ok (.iastore, 1) := by decide +kernel
theorem dX9_error_10 : decode cX9_error 10 = .ok (.ldc 46, 2) := by decide +kernel
theorem dX9_error_12 : decode cX9_error 12 = .ok (.iload_n 1, 1) := by decide +kernel
theorem dX9_error_13 : decode cX9_error 13 = .ok (.isub, 1) := by decide +kernel
theorem dX9_error_14 : decode cX9_error 14 = .ok (.ireturn, 1) := by decide +kernel
theorem dX9_in_0 : decode cX9_in 0 = .ok (.iload_n 0, 1) := by decide +kernel
theorem dX9_in_1 : decode cX9_in 1 = .ok (.iload_n 1, 1) := by decide +kernel
theorem dX9_in_2 : decode cX9_in 2 = .ok (.if_icmp .lt 12, 3) := by decide +kernel
theorem dX9_in_5 : decode cX9_in 5 = .ok (.iload_n 0, 1) := by decide +kernel
theorem dX9_in_6 : decode cX9_in 6 = .ok (.iload_n 2, 1) := by decide +kernel
theorem dX9_in_7 : decode cX9_in 7 = .ok (.if_icmp .gt 7, 3) := by decide +kernel
theorem dX9_in_10 : decode cX9_in 10 = .ok (.iconst 1, 1) := by decide +kernel
theorem dX9_in_11 : decode cX9_in 11 = .ok (.goto 4, 3) := by decide +kernel
theorem dX9_in_14 : decode cX9_in 14 = .ok (.iconst 0, 1) := by decide +kernel
theorem dX9_in_15 : decode cX9_in 15 = .ok (.ireturn, 1) := by decide +kernel
theorem dX9_held_0 : decode cX9_held 0 = .ok (.iload_n 0, 1) := by decide +kernel
theorem dX9_held_1 : decode cX9_held 1 = .ok (.iload_n 1, 1) := by decide +kernel
theorem dX9_held_2 : decode cX9_held 2 = .ok (.if_icmp .ge 7, 3) := by decide +kernel
theorem dX9_held_5 : decode cX9_held 5 = .ok (.iload_n 1, 1) := by decide +kernel
theorem dX9_held_6 : decode cX9_held 6 = .ok (.goto 13, 3) := by decide +kernel
theorem dX9_held_9 : decode cX9_held 9 = .ok (.iload_n 0, 1) := by decide +kernel
theorem dX9_held_10 : decode cX9_held 10 = .ok (.iload_n 2, 1) := by decide +kernel
theorem dX9_held_11 : decode cX9_held 11 = .ok (.if_icmp .le 7, 3) := by decide +kernel
theorem dX9_held_14 : decode cX9_held 14 = .ok (.iload_n 2, 1) := by decide +kernel
theorem dX9_held_15 : decode cX9_held 15 = .ok (.goto 4, 3) := by decide +kernel
theorem dX9_held_18 : decode cX9_held 18 = .ok (.iload_n 0, 1) := by decide +kernel
theorem dX9_held_19 : decode cX9_held 19 = .ok (.ireturn, 1) := by decide +kernel
theorem dX9_carry_0 : decode cX9_carry 0 = .ok (.iconst 0, 1) := by decide +kernel
theorem dX9_carry_1 : decode cX9_carry 1 = .ok (.istore_n 2, 1) := by decide +kernel
theorem dX9_carry_2 : decode cX9_carry 2 = .ok (.iload_n 2, 1) := by decide +kernel
theorem dX9_carry_3 : decode cX9_carry 3 = .ok (.sipush 516, 3) := by decide +kernel
theorem dX9_carry_6 : decode cX9_carry 6 = .ok (.if_icmp .ge 15, 3) := by decide +kernel
theorem dX9_carry_9 : decode cX9_carry 9 = .ok (.aload_n 1, 1) := by decide +kernel
theorem dX9_carry_10 : decode cX9_carry 10 = .ok (.iload_n 2, 1) := by decide +kernel
theorem dX9_carry_11 : decode cX9_carry 11 = .ok (.aload_n 0, 1) := by decide +kernel
theorem dX9_carry_12 : decode cX9_carry 12 = .ok (.iload_n 2, 1) := by decide +kernel
theorem dX9_carry_13 : decode cX9_carry 13 = .ok (.iaload, 1) := by decide +kernel
theorem dX9_carry_14 : decode cX9_carry 14 = .ok (.iastore, 1) := by decide +kernel
theorem dX9_carry_15 : decode cX9_carry 15 = .ok (.iinc 2 1, 3) := by decide +kernel
theorem dX9_carry_18 : decode cX9_carry 18 = .ok (.goto (-16), 3) := by decide +kernel
theorem dX9_carry_21 : decode cX9_carry 21 = .ok (.return_, 1) := by decide +kernel
theorem dX9_isShop_0 : decode cX9_isShop 0 = .ok (.iload_n 1, 1) := by decide +kernel
theorem dX9_isShop_1 : decode cX9_isShop 1 = .ok (.iconst 0, 1) := by decide +kernel
theorem dX9_isShop_2 : decode cX9_isShop 2 = .ok (.aload_n 0, 1) := by decide +kernel
theorem dX9_isShop_3 : decode cX9_isShop 3 = .ok (.getfield 7, 3) := by decide +kernel
theorem dX9_isShop_6 : decode cX9_isShop 6 = .ok (.iconst 0, 1) := by decide +kernel
theorem dX9_isShop_7 : decode cX9_isShop 7 = .ok (.iaload, 1) := by decide +kernel
theorem dX9_isShop_8 : decode cX9_isShop 8 = .ok (.iconst 1, 1) := by decide +kernel
theorem dX9_isShop_9 : decode cX9_isShop 9 = .ok (.isub, 1) := by decide +kernel
theorem dX9_isShop_10 : decode cX9_isShop 10 = .ok (.invokestatic 47, 3) := by decide +kernel
theorem dX9_isShop_13 : decode cX9_isShop 13 = .ok (.ireturn, 1) := by decide +kernel
theorem dX9_isGood_0 : decode cX9_isGood 0 = .ok (.iload_n 0, 1) := by decide +kernel
theorem dX9_isGood_1 : decode cX9_isGood 1 = .ok (.iconst 0, 1) := by decide +kernel
theorem dX9_isGood_2 : decode cX9_isGood 2 = .ok (.iconst 5, 1) := by decide +kernel
theorem dX9_isGood_3 : decode cX9_isGood 3 = .ok (.invokestatic 47, 3) := by decide +kernel
theorem dX9_isGood_6 : decode cX9_isGood 6 = .ok (.ireturn, 1) := by decide +kernel
theorem dX9_isCustomer_0 : decode cX9_isCustomer 0 = .ok (.iload_n 1, 1) := by decide +kernel
theorem dX9_isCustomer_1 : decode cX9_isCustomer 1 = .ok (.iconst 0, 1) := by decide +kernel
theorem dX9_isCustomer_2 : decode cX9_isCustomer 2 = .ok (.aload_n 0, 1) := by decide +kernel
theorem dX9_isCustomer_3 : decode cX9_isCustomer 3 = .ok (.getfield 7, 3) := by decide +kernel
theorem dX9_isCustomer_6 : decode cX9_isCustomer 6 = .ok (.iconst 1, 1) := by decide +kernel
theorem dX9_isCustomer_7 : decode cX9_isCustomer 7 = .ok (.iaload, 1) := by decide +kernel
theorem dX9_isCustomer_8 : decode cX9_isCustomer 8 = .ok (.iconst 1, 1) := by decide +kernel
theorem dX9_isCustomer_9 : decode cX9_isCustomer 9 = .ok (.isub, 1) := by decide +kernel
theorem dX9_isCustomer_10 : decode cX9_isCustomer 10 = .ok (.invokestatic 47, 3) := by decide +kernel
theorem dX9_isCustomer_13 : decode cX9_isCustomer 13 = .ok (.ireturn, 1) := by decide +kernel
theorem dX9_its_0 : decode cX9_its 0 = .ok (.aload_n 0, 1) := by decide +kernel
theorem dX9_its_1 : decode cX9_its 1 = .ok (.getfield 7, 3) := by decide +kernel
theorem dX9_its_4 : decode cX9_its 4 = .ok (.bipush 16, 2) := by decide +kernel
theorem dX9_its_6 : decode cX9_its 6 = .ok (.bipush 21, 2) := by decide +kernel
theorem dX9_its_8 : decode cX9_its 8 = .ok (.iload_n 1, 1) := by decide +kernel
theorem dX9_its_9 : decode cX9_its 9 = .ok (.imul, 1) := by decide +kernel
theorem dX9_its_10 : decode cX9_its 10 = .ok (.iadd, 1) := by decide +kernel
theorem dX9_its_11 : decode cX9_its 11 = .ok (.iload_n 2, 1) := by decide +kernel
theorem dX9_its_12 : decode cX9_its 12 = .ok (.iadd, 1) := by decide +kernel
theorem dX9_its_13 : decode cX9_its 13 = .ok (.iaload, 1) := by decide +kernel
theorem dX9_its_14 : decode cX9_its 14 = .ok (.ireturn, 1) := by decide +kernel
theorem dX9_lays1_0 : decode cX9_lays1 0 = .ok (.aload_n 0, 1) := by decide +kernel
theorem dX9_lays1_1 : decode cX9_lays1 1 = .ok (.getfield 7, 3) := by decide +kernel
theorem dX9_lays1_4 : decode cX9_lays1 4 = .ok (.bipush 16, 2) := by decide +kernel
theorem dX9_lays1_6 : decode cX9_lays1 6 = .ok (.bipush 21, 2) := by decide +kernel
theorem dX9_lays1_8 : decode cX9_lays1 8 = .ok (.iload_n 1, 1) := by decide +kernel
theorem dX9_lays1_9 : decode cX9_lays1 9 = .ok (.imul, 1) := by decide +kernel
theorem dX9_lays1_10 : decode cX9_lays1 10 = .ok (.iadd, 1) := by decide +kernel
theorem dX9_lays1_11 : decode cX9_lays1 11 = .ok (.iload_n 2, 1) := by decide +kernel
theorem dX9_lays1_12 : decode cX9_lays1 12 = .ok (.iadd, 1) := by decide +kernel
theorem dX9_lays1_13 : decode cX9_lays1 13 = .ok (.iload_n 3, 1) := by decide +kernel
theorem dX9_lays1_14 : decode cX9_lays1 14 = .ok (.iastore, 1) := by decide +kernel
theorem dX9_lays1_15 : decode cX9_lays1 15 = .ok (.return_, 1) := by decide +kernel
theorem dX9_of_0 : decode cX9_of 0 = .ok (.aload_n 0, 1) := by decide +kernel
theorem dX9_of_1 : decode cX9_of 1 = .ok (.getfield 7, 3) := by decide +kernel
theorem dX9_of_4 : decode cX9_of 4 = .ok (.sipush 142, 3) := by decide +kernel
theorem dX9_of_7 : decode cX9_of 7 = .ok (.iconst 4, 1) := by decide +kernel
theorem dX9_of_8 : decode cX9_of 8 = .ok (.iload_n 1, 1) := by decide +kernel
theorem dX9_of_9 : decode cX9_of 9 = .ok (.imul, 1) := by decide +kernel
theorem dX9_of_10 : decode cX9_of 10 = .ok (.iadd, 1) := by decide +kernel
theorem dX9_of_11 : decode cX9_of 11 = .ok (.iload_n 2, 1) := by decide +kernel
theorem dX9_of_12 : decode cX9_of 12 = .ok (.iadd, 1) := by decide +kernel
theorem dX9_of_13 : decode cX9_of 13 = .ok (.iaload, 1) := by decide +kernel
theorem dX9_of_14 : decode cX9_of 14 = .ok (.ireturn, 1) := by decide +kernel
theorem dX9_left_0 : decode cX9_left 0 = .ok (.iload_n 1, 1) := by decide +kernel
theorem dX9_left_1 : decode cX9_left 1 = .ok (.iconst (-1), 1) := by decide +kernel
theorem dX9_left_2 : decode cX9_left 2 = .ok (.if_icmp .ne 7, 3) := by decide +kernel
theorem dX9_left_5 : decode cX9_left 5 = .ok (.iconst (-1), 1) := by decide +kernel
theorem dX9_left_6 : decode cX9_left 6 = .ok (.goto 35, 3) := by decide +kernel
theorem dX9_left_9 : decode cX9_left 9 = .ok (.iload_n 1, 1) := by decide +kernel
theorem dX9_left_10 : decode cX9_left 10 = .ok (.ifCond .le 9, 3) := by decide +kernel
theorem dX9_left_13 : decode cX9_left 13 = .ok (.iload_n 1, 1) := by decide +kernel
theorem dX9_left_14 : decode cX9_left 14 = .ok (.iconst 1, 1) := by decide +kernel
theorem dX9_left_15 : decode cX9_left 15 = .ok (.isub, 1) := by decide +kernel
theorem dX9_left_16 : decode cX9_left 16 = .ok (.goto 25, 3) := by decide +kernel
theorem dX9_left_19 : decode cX9_left 19 = .ok (.aload_n 0, 1) := by decide +kernel
theorem dX9_left_20 : decode cX9_left 20 = .ok (.getfield 7, 3) := by decide +kernel
theorem dX9_left_23 : decode cX9_left 23 = .ok (.iconst 4, 1) := by decide +kernel
theorem dX9_left_24 : decode cX9_left 24 = .ok (.iaload, 1) := by decide +kernel
theorem dX9_left_25 : decode cX9_left 25 = .ok (.iconst 1, 1) := by decide +kernel
theorem dX9_left_26 : decode cX9_left 26 = .ok (.if_icmp .ne 14, 3) := by decide +kernel
theorem dX9_left_29 : decode cX9_left 29 = .ok (.aload_n 0, 1) := by decide +kernel
theorem dX9_left_30 : decode cX9_left 30 = .ok (.getfield 7, 3) := by decide +kernel
theorem dX9_left_33 : decode cX9_left 33 = .ok (.iconst 0, 1) := by decide +kernel
theorem dX9_left_34 : decode cX9_left 34 = .ok (.iaload, 1) := by decide +kernel
theorem dX9_left_35 : decode cX9_left 35 = .ok (.iconst 1, 1) := by decide +kernel
theorem dX9_left_36 : decode cX9_left 36 = .ok (.isub, 1) := by decide +kernel
theorem dX9_left_37 : decode cX9_left 37 = .ok (.goto 4, 3) := by decide +kernel
theorem dX9_left_40 : decode cX9_left 40 = .ok (.iconst (-1), 1) := by decide +kernel
theorem dX9_left_41 : decode cX9_left 41 = .ok (.ireturn, 1) := by decide +kernel
theorem dX9_lacks1_0 : decode cX9_lacks1 0 = .ok (.iload_n 1, 1) := by decide +kernel
theorem dX9_lacks1_1 : decode cX9_lacks1 1 = .ok (.iconst (-1), 1) := by decide +kernel
theorem dX9_lacks1_2 : decode cX9_lacks1 2 = .ok (.if_icmp .eq 14, 3) := by decide +kernel
theorem dX9_lacks1_5 : decode cX9_lacks1 5 = .ok (.aload_n 0, 1) := by decide +kernel
theorem dX9_lacks1_6 : decode cX9_lacks1 6 = .ok (.iload_n 1, 1) := by decide +kernel
theorem dX9_lacks1_7 : decode cX9_lacks1 7 = .ok (.iload_n 3, 1) := by decide +kernel
theorem dX9_lacks1_8 : decode cX9_lacks1 8 = .ok (.iload_n 2, 1) := by decide +kernel
theorem dX9_lacks1_9 : decode cX9_lacks1 9 = .ok (.iadd, 1) := by decide +kernel
theorem dX9_lacks1_10 : decode cX9_lacks1 10 = .ok (.invokevirtual 51, 3) := by decide +kernel
theorem dX9_lacks1_13 : decode cX9_lacks1 13 = .ok (.ifCond .ne 7, 3) := by decide +kernel
theorem dX9_lacks1_16 : decode cX9_lacks1 16 = .ok (.iconst 1, 1) := by decide +kernel
theorem dX9_lacks1_17 : decode cX9_lacks1 17 = .ok (.goto 4, 3) := by decide +kernel
theorem dX9_lacks1_20 : decode cX9_lacks1 20 = .ok (.iconst 0, 1) := by decide +kernel
theorem dX9_lacks1_21 : decode cX9_lacks1 21 = .ok (.ireturn, 1) := by decide +kernel
theorem dX9_may_0 : decode cX9_may 0 = .ok (.aload_n 0, 1) := by decide +kernel
theorem dX9_may_1 : decode cX9_may 1 = .ok (.iload_n 1, 1) := by decide +kernel
theorem dX9_may_2 : decode cX9_may 2 = .ok (.invokevirtual 55, 3) := by decide +kernel
theorem dX9_may_5 : decode cX9_may 5 = .ok (.istore_n 3, 1) := by decide +kernel
theorem dX9_may_6 : decode cX9_may 6 = .ok (.aload_n 0, 1) := by decide +kernel
theorem dX9_may_7 : decode cX9_may 7 = .ok (.iload_n 1, 1) := by decide +kernel
theorem dX9_may_8 : decode cX9_may 8 = .ok (.bipush 9, 2) := by decide +kernel
theorem dX9_may_10 : decode cX9_may 10 = .ok (.iload_n 2, 1) := by decide +kernel
theorem dX9_may_11 : decode cX9_may 11 = .ok (.iadd, 1) := by decide +kernel
theorem dX9_may_12 : decode cX9_may 12 = .ok (.invokevirtual 51, 3) := by decide +kernel
theorem dX9_may_15 : decode cX9_may 15 = .ok (.ifCond .le 18, 3) := by decide +kernel
theorem dX9_may_18 : decode cX9_may 18 = .ok (.aload_n 0, 1) := by decide +kernel
theorem dX9_may_19 : decode cX9_may 19 = .ok (.iload_n 3, 1) := by decide +kernel
theorem dX9_may_20 : decode cX9_may 20 = .ok (.iload_n 2, 1) := by decide +kernel
theorem dX9_may_21 : decode cX9_may 21 = .ok (.bipush 9, 2) := by decide +kernel
theorem dX9_may_23 : decode cX9_may 23 = .ok (.invokevirtual 59, 3) := by decide +kernel
theorem dX9_may_26 : decode cX9_may 26 = .ok (.ifCond .eq 7, 3) := by decide +kernel
theorem dX9_may_29 : decode cX9_may 29 = .ok (.iconst 1, 1) := by decide +kernel
theorem dX9_may_30 : decode cX9_may 30 = .ok (.goto 4, 3) := by decide +kernel
theorem dX9_may_33 : decode cX9_may 33 = .ok (.iconst 0, 1) := by decide +kernel
theorem dX9_may_34 : decode cX9_may 34 = .ok (.istore 4, 2) := by decide +kernel
theorem dX9_may_36 : decode cX9_may 36 = .ok (.aload_n 0, 1) := by decide +kernel
theorem dX9_may_37 : decode cX9_may 37 = .ok (.getfield 7, 3) := by decide +kernel
theorem dX9_may_40 : decode cX9_may 40 = .ok (.iconst 5, 1) := by decide +kernel
theorem dX9_may_41 : decode cX9_may 41 = .ok (.iaload, 1) := by decide +kernel
theorem dX9_may_42 : decode cX9_may 42 = .ok (.iconst 1, 1) := by decide +kernel
theorem dX9_may_43 : decode cX9_may 43 = .ok (.if_icmp .ne 30, 3) := by decide +kernel
theorem dX9_may_46 : decode cX9_may 46 = .ok (.iload 4, 2) := by decide +kernel
theorem dX9_may_48 : decode cX9_may 48 = .ok (.ifCond .eq 22, 3) := by decide +kernel
theorem dX9_may_51 : decode cX9_may 51 = .ok (.aload_n 0, 1) := by decide +kernel
theorem dX9_may_52 : decode cX9_may 52 = .ok (.aload_n 0, 1) := by decide +kernel
theorem dX9_may_53 : decode cX9_may 53 = .ok (.iload_n 3, 1) := by decide +kernel
theorem dX9_may_54 : decode cX9_may 54 = .ok (.invokevirtual 55, 3) := by decide +kernel
theorem dX9_may_57 : decode cX9_may 57 = .ok (.iload_n 2, 1) := by decide +kernel
theorem dX9_may_58 : decode cX9_may 58 = .ok (.bipush 9, 2) := by decide +kernel
theorem dX9_may_60 : decode cX9_may 60 = .ok (.invokevirtual 59, 3) := by decide +kernel
theorem dX9_may_63 : decode cX9_may 63 = .ok (.ifCond .eq 7, 3) := by decide +kernel
theorem dX9_may_66 : decode cX9_may 66 = .ok (.iconst 1, 1) := by decide +kernel
theorem dX9_may_67 : decode cX9_may 67 = .ok (.goto 4, 3) := by decide +kernel
theorem dX9_may_70 : decode cX9_may 70 = .ok (.iconst 0, 1) := by decide +kernel
theorem dX9_may_71 : decode cX9_may 71 = .ok (.istore 4, 2) := by decide +kernel
theorem dX9_may_73 : decode cX9_may 73 = .ok (.aload_n 0, 1) := by decide +kernel
theorem dX9_may_74 : decode cX9_may 74 = .ok (.getfield 7, 3) := by decide +kernel
theorem dX9_may_77 : decode cX9_may 77 = .ok (.iconst 5, 1) := by decide +kernel
theorem dX9_may_78 : decode cX9_may 78 = .ok (.iaload, 1) := by decide +kernel
theorem dX9_may_79 : decode cX9_may 79 = .ok (.iconst 2, 1) := by decide +kernel
theorem dX9_may_80 : decode cX9_may 80 = .ok (.if_icmp .ne 26, 3) := by decide +kernel
theorem dX9_may_83 : decode cX9_may 83 = .ok (.iload 4, 2) := by decide +kernel
theorem dX9_may_85 : decode cX9_may 85 = .ok (.ifCond .eq 18, 3) := by decide +kernel
theorem dX9_may_88 : decode cX9_may 88 = .ok (.aload_n 0, 1) := by decide +kernel
theorem dX9_may_89 : decode cX9_may 89 = .ok (.iload_n 3, 1) := by decide +kernel
theorem dX9_may_90 : decode cX9_may 90 = .ok (.iload_n 2, 1) := by decide +kernel
theorem dX9_may_91 : decode cX9_may 91 = .ok (.bipush 15, 2) := by decide +kernel
theorem dX9_may_93 : decode cX9_may 93 = .ok (.invokevirtual 59, 3) := by decide +kernel
theorem dX9_may_96 : decode cX9_may 96 = .ok (.ifCond .eq 7, 3) := by decide +kernel
theorem dX9_may_99 : decode cX9_may 99 = .ok (.iconst 1, 1) := by decide +kernel
theorem dX9_may_100 : decode cX9_may 100 = .ok (.goto 4, 3) := by decide +kernel
theorem dX9_may_103 : decode cX9_may 103 = .ok (.iconst 0, 1) := by decide +kernel
theorem dX9_may_104 : decode cX9_may 104 = .ok (.istore 4, 2) := by decide +kernel
theorem dX9_may_106 : decode cX9_may 106 = .ok (.iload 4, 2) := by decide +kernel
theorem dX9_may_108 : decode cX9_may 108 = .ok (.ireturn, 1) := by decide +kernel
theorem dX9_maySell_0 : decode cX9_maySell 0 = .ok (.iconst 0, 1) := by decide +kernel
theorem dX9_maySell_1 : decode cX9_maySell 1 = .ok (.istore_n 2, 1) := by decide +kernel
theorem dX9_maySell_2 : decode cX9_maySell 2 = .ok (.iconst 0, 1) := by decide +kernel
theorem dX9_maySell_3 : decode cX9_maySell 3 = .ok (.istore_n 3, 1) := by decide +kernel
theorem dX9_maySell_4 : decode cX9_maySell 4 = .ok (.iload_n 3, 1) := by decide +kernel
theorem dX9_maySell_5 : decode cX9_maySell 5 = .ok (.bipush 6, 2) := by decide +kernel
theorem dX9_maySell_7 : decode cX9_maySell 7 = .ok (.if_icmp .ge 28, 3) := by decide +kernel
theorem dX9_maySell_10 : decode cX9_maySell 10 = .ok (.iload_n 2, 1) := by decide +kernel
theorem dX9_maySell_11 : decode cX9_maySell 11 = .ok (.aload_n 0, 1) := by decide +kernel
theorem dX9_maySell_12 : decode cX9_maySell 12 = .ok (.iload_n 1, 1) := by decide +kernel
theorem dX9_maySell_13 : decode cX9_maySell 13 = .ok (.iload_n 3, 1) := by decide +kernel
theorem dX9_maySell_14 : decode cX9_maySell 14 = .ok (.invokevirtual 62, 3) := by decide +kernel
theorem dX9_maySell_17 : decode cX9_maySell 17 = .ok (.ifCond .eq 9, 3) := by decide +kernel
theorem dX9_maySell_20 : decode cX9_maySell 20 = .ok (.iconst 1, 1) := by decide +kernel
theorem dX9_maySell_21 : decode cX9_maySell 21 = .ok (.iload_n 3, 1) := by decide +kernel
theorem dX9_maySell_22 : decode cX9_maySell 22 = .ok (.ishl, 1) := by decide +kernel
theorem dX9_maySell_23 : decode cX9_maySell 23 = .ok (.goto 4, 3) := by decide +kernel
theorem dX9_maySell_26 : decode cX9_maySell 26 = .ok (.iconst 0, 1) := by decide +kernel
theorem dX9_maySell_27 : decode cX9_maySell 27 = .ok (.ior, 1) := by decide +kernel
theorem dX9_maySell_28 : decode cX9_maySell 28 = .ok (.istore_n 2, 1) := by decide +kernel
theorem dX9_maySell_29 : decode cX9_maySell 29 = .ok (.iinc 3 1, 3) := by decide +kernel
theorem dX9_maySell_32 : decode cX9_maySell 32 = .ok (.goto (-28), 3) := by decide +kernel
theorem dX9_maySell_35 : decode cX9_maySell 35 = .ok (.iload_n 2, 1) := by decide +kernel
theorem dX9_maySell_36 : decode cX9_maySell 36 = .ok (.ireturn, 1) := by decide +kernel
theorem dX9_cost_0 : decode cX9_cost 0 = .ok (.iload_n 1, 1) := by decide +kernel
theorem dX9_cost_1 : decode cX9_cost 1 = .ok (.invokestatic 66, 3) := by decide +kernel
theorem dX9_cost_4 : decode cX9_cost 4 = .ok (.ifCond .eq 13, 3) := by decide +kernel
theorem dX9_cost_7 : decode cX9_cost 7 = .ok (.iload_n 2, 1) := by decide +kernel
theorem dX9_cost_8 : decode cX9_cost 8 = .ok (.iconst 0, 1) := by decide +kernel
theorem dX9_cost_9 : decode cX9_cost 9 = .ok (.bipush 99, 2) := by decide +kernel
theorem dX9_cost_11 : decode cX9_cost 11 = .ok (.invokestatic 47, 3) := by decide +kernel
theorem dX9_cost_14 : decode cX9_cost 14 = .ok (.ifCond .ne 9, 3) := by decide +kernel
theorem dX9_cost_17 : decode cX9_cost 17 = .ok (.aload_n 0, 1) := by decide +kernel
theorem dX9_cost_18 : decode cX9_cost 18 = .ok (.iconst 1, 1) := by decide +kernel
theorem dX9_cost_19 : decode cX9_cost 19 = .ok (.invokevirtual 70, 3) := by decide +kernel
theorem dX9_cost_22 : decode cX9_cost 22 = .ok (.ireturn, 1) := by decide +kernel
theorem dX9_cost_23 : decode cX9_cost 23 = .ok (.aload_n 0, 1) := by decide +kernel
theorem dX9_cost_24 : decode cX9_cost 24 = .ok (.getfield 7, 3) := by decide +kernel
theorem dX9_cost_27 : decode cX9_cost 27 = .ok (.bipush 10, 2) := by decide +kernel
theorem dX9_cost_29 : decode cX9_cost 29 = .ok (.iload_n 1, 1) := by decide +kernel
theorem dX9_cost_30 : decode cX9_cost 30 = .ok (.iadd, 1) := by decide +kernel
theorem dX9_cost_31 : decode cX9_cost 31 = .ok (.iaload, 1) := by decide +kernel
theorem dX9_cost_32 : decode cX9_cost 32 = .ok (.istore_n 3, 1) := by decide +kernel
theorem dX9_cost_33 : decode cX9_cost 33 = .ok (.aload_n 0, 1) := by decide +kernel
theorem dX9_cost_34 : decode cX9_cost 34 = .ok (.getfield 7, 3) := by decide +kernel
theorem dX9_cost_37 : decode cX9_cost 37 = .ok (.bipush 10, 2) := by decide +kernel
theorem dX9_cost_39 : decode cX9_cost 39 = .ok (.iload_n 1, 1) := by decide +kernel
theorem dX9_cost_40 : decode cX9_cost 40 = .ok (.iadd, 1) := by decide +kernel
theorem dX9_cost_41 : decode cX9_cost 41 = .ok (.iload_n 2, 1) := by decide +kernel
theorem dX9_cost_42 : decode cX9_cost 42 = .ok (.iastore, 1) := by decide +kernel
theorem dX9_cost_43 : decode cX9_cost 43 = .ok (.iload_n 3, 1) := by decide +kernel
theorem dX9_cost_44 : decode cX9_cost 44 = .ok (.ireturn, 1) := by decide +kernel
theorem dX9_rule_0 : decode cX9_rule 0 = .ok (.iload_n 1, 1) := by decide +kernel
theorem dX9_rule_1 : decode cX9_rule 1 = .ok (.iconst 0, 1) := by decide +kernel
theorem dX9_rule_2 : decode cX9_rule 2 = .ok (.iconst 1, 1) := by decide +kernel
theorem dX9_rule_3 : decode cX9_rule 3 = .ok (.invokestatic 47, 3) := by decide +kernel
theorem dX9_rule_6 : decode cX9_rule 6 = .ok (.ifCond .eq 20, 3) := by decide +kernel
theorem dX9_rule_9 : decode cX9_rule 9 = .ok (.iload_n 2, 1) := by decide +kernel
theorem dX9_rule_10 : decode cX9_rule 10 = .ok (.iconst 0, 1) := by decide +kernel
theorem dX9_rule_11 : decode cX9_rule 11 = .ok (.iload_n 1, 1) := by decide +kernel
theorem dX9_rule_12 : decode cX9_rule 12 = .ok (.ifCond .ne 7, 3) := by decide +kernel
theorem dX9_rule_15 : decode cX9_rule 15 = .ok (.iconst 1, 1) := by decide +kernel
theorem dX9_rule_16 : decode cX9_rule 16 = .ok (.goto 4, 3) := by decide +kernel
theorem dX9_rule_19 : decode cX9_rule 19 = .ok (.iconst 2, 1) := by decide +kernel
theorem dX9_rule_20 : decode cX9_rule 20 = .ok (.invokestatic 47, 3) := by decide +kernel
theorem dX9_rule_23 : decode cX9_rule 23 = .ok (.ifCond .ne 9, 3) := by decide +kernel
theorem dX9_rule_26 : decode cX9_rule 26 = .ok (.aload_n 0, 1) := by decide +kernel
theorem dX9_rule_27 : decode cX9_rule 27 = .ok (.iconst 1, 1) := by decide +kernel
theorem dX9_rule_28 : decode cX9_rule 28 = .ok (.invokevirtual 70, 3) := by decide +kernel
theorem dX9_rule_31 : decode cX9_rule 31 = .ok (.ireturn, 1) := by decide +kernel
theorem dX9_rule_32 : decode cX9_rule 32 = .ok (.aload_n 0, 1) := by decide +kernel
theorem dX9_rule_33 : decode cX9_rule 33 = .ok (.getfield 7, 3) := by decide +kernel
theorem dX9_rule_36 : decode cX9_rule 36 = .ok (.iconst 4, 1) := by decide +kernel
theorem dX9_rule_37 : decode cX9_rule 37 = .ok (.iload_n 1, 1) := by decide +kernel
theorem dX9_rule_38 : decode cX9_rule 38 = .ok (.iadd, 1) := by decide +kernel
theorem dX9_rule_39 : decode cX9_rule 39 = .ok (.iaload, 1) := by decide +kernel
theorem dX9_rule_40 : decode cX9_rule 40 = .ok (.istore_n 3, 1) := by decide +kernel
theorem dX9_rule_41 : decode cX9_rule 41 = .ok (.aload_n 0, 1) := by decide +kernel
theorem dX9_rule_42 : decode cX9_rule 42 = .ok (.getfield 7, 3) := by decide +kernel
theorem dX9_rule_45 : decode cX9_rule 45 = .ok (.iconst 4, 1) := by decide +kernel
theorem dX9_rule_46 : decode cX9_rule 46 = .ok (.iload_n 1, 1) := by decide +kernel
theorem dX9_rule_47 : decode cX9_rule 47 = .ok (.iadd, 1) := by decide +kernel
theorem dX9_rule_48 : decode cX9_rule 48 = .ok (.iload_n 2, 1) := by decide +kernel
theorem dX9_rule_49 : decode cX9_rule 49 = .ok (.iastore, 1) := by decide +kernel
theorem dX9_rule_50 : decode cX9_rule 50 = .ok (.iload_n 3, 1) := by decide +kernel
theorem dX9_rule_51 : decode cX9_rule 51 = .ok (.ireturn, 1) := by decide +kernel
theorem dX9_shop_0 : decode cX9_shop 0 = .ok (.iload_n 1, 1) := by decide +kernel
theorem dX9_shop_1 : decode cX9_shop 1 = .ok (.iconst 0, 1) := by decide +kernel
theorem dX9_shop_2 : decode cX9_shop 2 = .ok (.bipush 69, 2) := by decide +kernel
theorem dX9_shop_4 : decode cX9_shop 4 = .ok (.invokestatic 47, 3) := by decide +kernel
theorem dX9_shop_7 : decode cX9_shop 7 = .ok (.ifCond .ne 9, 3) := by decide +kernel
theorem dX9_shop_10 : decode cX9_shop 10 = .ok (.aload_n 0, 1) := by decide +kernel
theorem dX9_shop_11 : decode cX9_shop 11 = .ok (.iconst 1, 1) := by decide +kernel
theorem dX9_shop_12 : decode cX9_shop 12 = .ok (.invokevirtual 70, 3) := by decide +kernel
theorem dX9_shop_15 : decode cX9_shop 15 = .ok (.ireturn, 1) := by decide +kernel
theorem dX9_shop_16 : decode cX9_shop 16 = .ok (.aload_n 0, 1) := by decide +kernel
theorem dX9_shop_17 : decode cX9_shop 17 = .ok (.getfield 7, 3) := by decide +kernel
theorem dX9_shop_20 : decode cX9_shop 20 = .ok (.iconst 0, 1) := by decide +kernel
theorem dX9_shop_21 : decode cX9_shop 21 = .ok (.iaload, 1) := by decide +kernel
theorem dX9_shop_22 : decode cX9_shop 22 = .ok (.bipush 6, 2) := by decide +kernel
theorem dX9_shop_24 : decode cX9_shop 24 = .ok (.if_icmp .ne 9, 3) := by decide +kernel
theorem dX9_shop_27 : decode cX9_shop 27 = .ok (.aload_n 0, 1) := by decide +kernel
theorem dX9_shop_28 : decode cX9_shop 28 = .ok (.iconst 4, 1) := by decide +kernel
theorem dX9_shop_29 : decode cX9_shop 29 = .ok (.invokevirtual 70, 3) := by decide +kernel
theorem dX9_shop_32 : decode cX9_shop 32 = .ok (.ireturn, 1) := by decide +kernel
theorem dX9_shop_33 : decode cX9_shop 33 = .ok (.aload_n 0, 1) := by decide +kernel
theorem dX9_shop_34 : decode cX9_shop 34 = .ok (.getfield 7, 3) := by decide +kernel
theorem dX9_shop_37 : decode cX9_shop 37 = .ok (.iconst 0, 1) := by decide +kernel
theorem dX9_shop_38 : decode cX9_shop 38 = .ok (.iaload, 1) := by decide +kernel
theorem dX9_shop_39 : decode cX9_shop 39 = .ok (.istore_n 2, 1) := by decide +kernel
theorem dX9_shop_40 : decode cX9_shop 40 = .ok (.iconst 0, 1) := by decide +kernel
theorem dX9_shop_41 : decode cX9_shop 41 = .ok (.istore_n 3, 1) := by decide +kernel
theorem dX9_shop_42 : decode cX9_shop 42 = .ok (.iload_n 3, 1) := by decide +kernel
theorem dX9_shop_43 : decode cX9_shop 43 = .ok (.bipush 21, 2) := by decide +kernel
theorem dX9_shop_45 : decode cX9_shop 45 = .ok (.if_icmp .ge 16, 3) := by decide +kernel
theorem dX9_shop_48 : decode cX9_shop 48 = .ok (.aload_n 0, 1) := by decide +kernel
theorem dX9_shop_49 : decode cX9_shop 49 = .ok (.iload_n 2, 1) := by decide +kernel
theorem dX9_shop_50 : decode cX9_shop 50 = .ok (.iload_n 3, 1) := by decide +kernel
theorem dX9_shop_51 : decode cX9_shop 51 = .ok (.iconst 0, 1) := by decide +kernel
theorem dX9_shop_52 : decode cX9_shop 52 = .ok (.invokevirtual 73, 3) := by decide +kernel
theorem dX9_shop_55 : decode cX9_shop 55 = .ok (.iinc 3 1, 3) := by decide +kernel
theorem dX9_shop_58 : decode cX9_shop 58 = .ok (.goto (-16), 3) := by decide +kernel
theorem dX9_shop_61 : decode cX9_shop 61 = .ok (.aload_n 0, 1) := by decide +kernel
theorem dX9_shop_62 : decode cX9_shop 62 = .ok (.iload_n 2, 1) := by decide +kernel
theorem dX9_shop_63 : decode cX9_shop 63 = .ok (.iconst 0, 1) := by decide +kernel
theorem dX9_shop_64 : decode cX9_shop 64 = .ok (.iload_n 1, 1) := by decide +kernel
theorem dX9_shop_65 : decode cX9_shop 65 = .ok (.bipush 10, 2) := by decide +kernel
theorem dX9_shop_67 : decode cX9_shop 67 = .ok (.idiv, 1) := by decide +kernel
theorem dX9_shop_68 : decode cX9_shop 68 = .ok (.invokevirtual 73, 3) := by decide +kernel
theorem dX9_shop_71 : decode cX9_shop 71 = .ok (.aload_n 0, 1) := by decide +kernel
theorem dX9_shop_72 : decode cX9_shop 72 = .ok (.iload_n 2, 1) := by decide +kernel
theorem dX9_shop_73 : decode cX9_shop 73 = .ok (.iconst 1, 1) := by decide +kernel
theorem dX9_shop_74 : decode cX9_shop 74 = .ok (.iload_n 1, 1) := by decide +kernel
theorem dX9_shop_75 : decode cX9_shop 75 = .ok (.bipush 10, 2) := by decide +kernel
theorem dX9_shop_77 : decode cX9_shop 77 = .ok (.irem, 1) := by decide +kernel
theorem dX9_shop_78 : decode cX9_shop 78 = .ok (.invokevirtual 73, 3) := by decide +kernel
theorem dX9_shop_81 : decode cX9_shop 81 = .ok (.aload_n 0, 1) := by decide +kernel
theorem dX9_shop_82 : decode cX9_shop 82 = .ok (.getfield 7, 3) := by decide +kernel
theorem dX9_shop_85 : decode cX9_shop 85 = .ok (.iconst 0, 1) := by decide +kernel
theorem dX9_shop_86 : decode cX9_shop 86 = .ok (.dup2, 1) := by decide +kernel
theorem dX9_shop_87 : decode cX9_shop 87 = .ok (.iaload, 1) := by decide +kernel
theorem dX9_shop_88 : decode cX9_shop 88 = .ok (.iconst 1, 1) := by decide +kernel
theorem dX9_shop_89 : decode cX9_shop 89 = .ok (.iadd, 1) := by decide +kernel
theorem dX9_shop_90 : decode cX9_shop 90 = .ok (.iastore, 1) := by decide +kernel
theorem dX9_shop_91 : decode cX9_shop 91 = .ok (.iload_n 2, 1) := by decide +kernel
theorem dX9_shop_92 : decode cX9_shop 92 = .ok (.ireturn, 1) := by decide +kernel
theorem dX9_toldShop_0 : decode cX9_toldShop 0 = .ok (.iload_n 2, 1) := by decide +kernel
theorem dX9_toldShop_1 : decode cX9_toldShop 1 = .ok (.bipush 15, 2) := by decide +kernel
theorem dX9_toldShop_3 : decode cX9_toldShop 3 = .ok (.if_icmp .ne 11, 3) := by decide +kernel
theorem dX9_toldShop_6 : decode cX9_toldShop 6 = .ok (.aload_n 0, 1) := by decide +kernel
theorem dX9_toldShop_7 : decode cX9_toldShop 7 = .ok (.iload_n 1, 1) := by decide +kernel
theorem dX9_toldShop_8 : decode cX9_toldShop 8 = .ok (.invokevirtual 77, 3) := by decide +kernel
theorem dX9_toldShop_11 : decode cX9_toldShop 11 = .ok (.goto 9, 3) := by decide +kernel
theorem dX9_toldShop_14 : decode cX9_toldShop 14 = .ok (.aload_n 0, 1) := by decide +kernel
theorem dX9_toldShop_15 : decode cX9_toldShop 15 = .ok (.iload_n 1, 1) := by decide +kernel
theorem dX9_toldShop_16 : decode cX9_toldShop 16 = .ok (.iload_n 2, 1) := by decide +kernel
theorem dX9_toldShop_17 : decode cX9_toldShop 17 = .ok (.invokevirtual 51, 3) := by decide +kernel
theorem dX9_toldShop_20 : decode cX9_toldShop 20 = .ok (.ireturn, 1) := by decide +kernel
theorem dX9_shopIs_0 : decode cX9_shopIs 0 = .ok (.aload_n 0, 1) := by decide +kernel
theorem dX9_shopIs_1 : decode cX9_shopIs 1 = .ok (.iload_n 1, 1) := by decide +kernel
theorem dX9_shopIs_2 : decode cX9_shopIs 2 = .ok (.invokevirtual 80, 3) := by decide +kernel
theorem dX9_shopIs_5 : decode cX9_shopIs 5 = .ok (.ifCond .eq 22, 3) := by decide +kernel
theorem dX9_shopIs_8 : decode cX9_shopIs 8 = .ok (.iload_n 2, 1) := by decide +kernel
theorem dX9_shopIs_9 : decode cX9_shopIs 9 = .ok (.iconst 0, 1) := by decide +kernel
theorem dX9_shopIs_10 : decode cX9_shopIs 10 = .ok (.bipush 15, 2) := by decide +kernel
theorem dX9_shopIs_12 : decode cX9_shopIs 12 = .ok (.invokestatic 47, 3) := by decide +kernel
theorem dX9_shopIs_15 : decode cX9_shopIs 15 = .ok (.ifCond .eq 12, 3) := by decide +kernel
theorem dX9_shopIs_18 : decode cX9_shopIs 18 = .ok (.aload_n 0, 1) := by decide +kernel
theorem dX9_shopIs_19 : decode cX9_shopIs 19 = .ok (.iload_n 1, 1) := by decide +kernel
theorem dX9_shopIs_20 : decode cX9_shopIs 20 = .ok (.iload_n 2, 1) := by decide +kernel
theorem dX9_shopIs_21 : decode cX9_shopIs 21 = .ok (.invokevirtual 83, 3) := by decide +kernel
theorem dX9_shopIs_24 : decode cX9_shopIs 24 = .ok (.goto 8, 3) := by decide +kernel
theorem dX9_shopIs_27 : decode cX9_shopIs 27 = .ok (.aload_n 0, 1) := by decide +kernel
theorem dX9_shopIs_28 : decode cX9_shopIs 28 = .ok (.iconst 1, 1) := by decide +kernel
theorem dX9_shopIs_29 : decode cX9_shopIs 29 = .ok (.invokevirtual 70, 3) := by decide +kernel
theorem dX9_shopIs_32 : decode cX9_shopIs 32 = .ok (.ireturn, 1) := by decide +kernel
theorem dX9_isUnder_0 : decode cX9_isUnder 0 = .ok (.iload_n 1, 1) := by decide +kernel
theorem dX9_isUnder_1 : decode cX9_isUnder 1 = .ok (.ifCond .eq 28, 3) := by decide +kernel
theorem dX9_isUnder_4 : decode cX9_isUnder 4 = .ok (.iload_n 0, 1) := by decide +kernel
theorem dX9_isUnder_5 : decode cX9_isUnder 5 = .ok (.iload_n 1, 1) := by decide +kernel
theorem dX9_isUnder_6 : decode cX9_isUnder 6 = .ok (.if_icmp .eq 23, 3) := by decide +kernel
theorem dX9_isUnder_9 : decode cX9_isUnder 9 = .ok (.iload_n 1, 1) := by decide +kernel
theorem dX9_isUnder_10 : decode cX9_isUnder 10 = .ok (.iconst 1, 1) := by decide +kernel
theorem dX9_isUnder_11 : decode cX9_isUnder 11 = .ok (.if_icmp .ne 8, 3) := by decide +kernel
theorem dX9_isUnder_14 : decode cX9_isUnder 14 = .ok (.iload_n 0, 1) := by decide +kernel
theorem dX9_isUnder_15 : decode cX9_isUnder 15 = .ok (.iconst 4, 1) := by decide +kernel
theorem dX9_isUnder_16 : decode cX9_isUnder 16 = .ok (.if_icmp .eq 13, 3) := by decide +kernel
theorem dX9_isUnder_19 : decode cX9_isUnder 19 = .ok (.iload_n 1, 1) := by decide +kernel
theorem dX9_isUnder_20 : decode cX9_isUnder 20 = .ok (.iconst 2, 1) := by decide +kernel
theorem dX9_isUnder_21 : decode cX9_isUnder 21 = .ok (.if_icmp .ne 12, 3) := by decide +kernel
theorem dX9_isUnder_24 : decode cX9_isUnder 24 = .ok (.iload_n 0, 1) := by decide +kernel
theorem dX9_isUnder_25 : decode cX9_isUnder 25 = .ok (.iconst 5, 1) := by decide +kernel
theorem dX9_isUnder_26 : decode cX9_isUnder 26 = .ok (.if_icmp .ne 7, 3) := by decide +kernel
theorem dX9_isUnder_29 : decode cX9_isUnder 29 = .ok (.iconst 1, 1) := by decide +kernel
theorem dX9_isUnder_30 : decode cX9_isUnder 30 = .ok (.goto 4, 3) := by decide +kernel
theorem dX9_isUnder_33 : decode cX9_isUnder 33 = .ok (.iconst 0, 1) := by decide +kernel
theorem dX9_isUnder_34 : decode cX9_isUnder 34 = .ok (.ireturn, 1) := by decide +kernel
theorem dX9_as_0 : decode cX9_as 0 = .ok (.aload_n 0, 1) := by decide +kernel
theorem dX9_as_1 : decode cX9_as 1 = .ok (.iload_n 1, 1) := by decide +kernel
theorem dX9_as_2 : decode cX9_as 2 = .ok (.invokevirtual 80, 3) := by decide +kernel
theorem dX9_as_5 : decode cX9_as 5 = .ok (.ifCond .eq 13, 3) := by decide +kernel
theorem dX9_as_8 : decode cX9_as 8 = .ok (.iload_n 2, 1) := by decide +kernel
theorem dX9_as_9 : decode cX9_as 9 = .ok (.iconst 0, 1) := by decide +kernel
theorem dX9_as_10 : decode cX9_as 10 = .ok (.bipush 6, 2) := by decide +kernel
theorem dX9_as_12 : decode cX9_as 12 = .ok (.invokestatic 47, 3) := by decide +kernel
theorem dX9_as_15 : decode cX9_as 15 = .ok (.ifCond .ne 9, 3) := by decide +kernel
theorem dX9_as_18 : decode cX9_as 18 = .ok (.aload_n 0, 1) := by decide +kernel
theorem dX9_as_19 : decode cX9_as 19 = .ok (.iconst 1, 1) := by decide +kernel
theorem dX9_as_20 : decode cX9_as 20 = .ok (.invokevirtual 70, 3) := by decide +kernel
theorem dX9_as_23 : decode cX9_as 23 = .ok (.ireturn, 1) := by decide +kernel
theorem dX9_as_24 : decode cX9_as 24 = .ok (.aload_n 0, 1) := by decide +kernel
theorem dX9_as_25 : decode cX9_as 25 = .ok (.iload_n 1, 1) := by decide +kernel
theorem dX9_as_26 : decode cX9_as 26 = .ok (.iconst 0, 1) := by decide +kernel
theorem dX9_as_27 : decode cX9_as 27 = .ok (.invokevirtual 51, 3) := by decide +kernel
theorem dX9_as_30 : decode cX9_as 30 = .ok (.iload_n 2, 1) := by decide +kernel
theorem dX9_as_31 : decode cX9_as 31 = .ok (.invokestatic 86, 3) := by decide +kernel
theorem dX9_as_34 : decode cX9_as 34 = .ok (.ifCond .eq 12, 3) := by decide +kernel
theorem dX9_as_37 : decode cX9_as 37 = .ok (.aload_n 0, 1) := by decide +kernel
theorem dX9_as_38 : decode cX9_as 38 = .ok (.iload_n 1, 1) := by decide +kernel
theorem dX9_as_39 : decode cX9_as 39 = .ok (.iconst 2, 1) := by decide +kernel
theorem dX9_as_40 : decode cX9_as 40 = .ok (.invokevirtual 51, 3) := by decide +kernel
theorem dX9_as_43 : decode cX9_as 43 = .ok (.goto 8, 3) := by decide +kernel
theorem dX9_as_46 : decode cX9_as 46 = .ok (.aload_n 0, 1) := by decide +kernel
theorem dX9_as_47 : decode cX9_as 47 = .ok (.iconst 5, 1) := by decide +kernel
theorem dX9_as_48 : decode cX9_as 48 = .ok (.invokevirtual 70, 3) := by decide +kernel
theorem dX9_as_51 : decode cX9_as 51 = .ok (.ireturn, 1) := by decide +kernel
theorem dX9_set_0 : decode cX9_set 0 = .ok (.iload_n 2, 1) := by decide +kernel
theorem dX9_set_1 : decode cX9_set 1 = .ok (.ifCond .ne 8, 3) := by decide +kernel
theorem dX9_set_4 : decode cX9_set 4 = .ok (.bipush 6, 2) := by decide +kernel
theorem dX9_set_6 : decode cX9_set 6 = .ok (.goto 16, 3) := by decide +kernel
theorem dX9_set_9 : decode cX9_set 9 = .ok (.iload_n 2, 1) := by decide +kernel
theorem dX9_set_10 : decode cX9_set 10 = .ok (.bipush 9, 2) := by decide +kernel
theorem dX9_set_12 : decode cX9_set 12 = .ok (.if_icmp .ge 8, 3) := by decide +kernel
theorem dX9_set_15 : decode cX9_set 15 = .ok (.bipush 9, 2) := by decide +kernel
theorem dX9_set_17 : decode cX9_set 17 = .ok (.goto 5, 3) := by decide +kernel
theorem dX9_set_20 : decode cX9_set 20 = .ok (.bipush 99, 2) := by decide +kernel
theorem dX9_set_22 : decode cX9_set 22 = .ok (.istore 4, 2) := by decide +kernel
theorem dX9_set_24 : decode cX9_set 24 = .ok (.aload_n 0, 1) := by decide +kernel
theorem dX9_set_25 : decode cX9_set 25 = .ok (.iload_n 1, 1) := by decide +kernel
theorem dX9_set_26 : decode cX9_set 26 = .ok (.invokevirtual 80, 3) := by decide +kernel
theorem dX9_set_29 : decode cX9_set 29 = .ok (.ifCond .eq 28, 3) := by decide +kernel
theorem dX9_set_32 : decode cX9_set 32 = .ok (.iload_n 2, 1) := by decide +kernel
theorem dX9_set_33 : decode cX9_set 33 = .ok (.iconst 0, 1) := by decide +kernel
theorem dX9_set_34 : decode cX9_set 34 = .ok (.bipush 14, 2) := by decide +kernel
theorem dX9_set_36 : decode cX9_set 36 = .ok (.invokestatic 47, 3) := by decide +kernel
theorem dX9_set_39 : decode cX9_set 39 = .ok (.ifCond .eq 18, 3) := by decide +kernel
theorem dX9_set_42 : decode cX9_set 42 = .ok (.iload_n 2, 1) := by decide +kernel
theorem dX9_set_43 : decode cX9_set 43 = .ok (.iconst 2, 1) := by decide +kernel
theorem dX9_set_44 : decode cX9_set 44 = .ok (.if_icmp .eq 13, 3) := by decide +kernel
theorem dX9_set_47 : decode cX9_set 47 = .ok (.iload_n 3, 1) := by decide +kernel
theorem dX9_set_48 : decode cX9_set 48 = .ok (.iconst 0, 1) := by decide +kernel
theorem dX9_set_49 : decode cX9_set 49 = .ok (.iload 4, 2) := by decide +kernel
theorem dX9_set_51 : decode cX9_set 51 = .ok (.invokestatic 47, 3) := by decide +kernel
theorem dX9_set_54 : decode cX9_set 54 = .ok (.ifCond .ne 9, 3) := by decide +kernel
theorem dX9_set_57 : decode cX9_set 57 = .ok (.aload_n 0, 1) := by decide +kernel
theorem dX9_set_58 : decode cX9_set 58 = .ok (.iconst 1, 1) := by decide +kernel
theorem dX9_set_59 : decode cX9_set 59 = .ok (.invokevirtual 70, 3) := by decide +kernel
theorem dX9_set_62 : decode cX9_set 62 = .ok (.ireturn, 1) := by decide +kernel
theorem dX9_set_63 : decode cX9_set 63 = .ok (.aload_n 0, 1) := by decide +kernel
theorem dX9_set_64 : decode cX9_set 64 = .ok (.iload_n 1, 1) := by decide +kernel
theorem dX9_set_65 : decode cX9_set 65 = .ok (.iload_n 2, 1) := by decide +kernel
theorem dX9_set_66 : decode cX9_set 66 = .ok (.invokevirtual 51, 3) := by decide +kernel
theorem dX9_set_69 : decode cX9_set 69 = .ok (.istore 5, 2) := by decide +kernel
theorem dX9_set_71 : decode cX9_set 71 = .ok (.aload_n 0, 1) := by decide +kernel
theorem dX9_set_72 : decode cX9_set 72 = .ok (.iload_n 1, 1) := by decide +kernel
theorem dX9_set_73 : decode cX9_set 73 = .ok (.iload_n 2, 1) := by decide +kernel
theorem dX9_set_74 : decode cX9_set 74 = .ok (.iload_n 3, 1) := by decide +kernel
theorem dX9_set_75 : decode cX9_set 75 = .ok (.invokevirtual 73, 3) := by decide +kernel
theorem dX9_set_78 : decode cX9_set 78 = .ok (.iload 5, 2) := by decide +kernel
theorem dX9_set_80 : decode cX9_set 80 = .ok (.ireturn, 1) := by decide +kernel
theorem dX9_isCustomer1_0 : decode cX9_isCustomer1 0 = .ok (.iload_n 0, 1) := by decide +kernel
theorem dX9_isCustomer1_1 : decode cX9_isCustomer1 1 = .ok (.iconst 0, 1) := by decide +kernel
theorem dX9_isCustomer1_2 : decode cX9_isCustomer1 2 = .ok (.bipush 63, 2) := by decide +kernel
theorem dX9_isCustomer1_4 : decode cX9_isCustomer1 4 = .ok (.invokestatic 47, 3) := by decide +kernel
theorem dX9_isCustomer1_7 : decode cX9_isCustomer1 7 = .ok (.ifCond .eq 37, 3) := by decide +kernel
theorem dX9_isCustomer1_10 : decode cX9_isCustomer1 10 = .ok (.iload_n 1, 1) := by decide +kernel
theorem dX9_isCustomer1_11 : decode cX9_isCustomer1 11 = .ok (.bipush 10, 2) := by decide +kernel
theorem dX9_isCustomer1_13 : decode cX9_isCustomer1 13 = .ok (.bipush 121, 2) := by decide +kernel
theorem dX9_isCustomer1_15 : decode cX9_isCustomer1 15 = .ok (.invokestatic 47, 3) := by decide +kernel
theorem dX9_isCustomer1_18 : decode cX9_isCustomer1 18 = .ok (.ifCond .eq 26, 3) := by decide +kernel
theorem dX9_isCustomer1_21 : decode cX9_isCustomer1 21 = .ok (.iload_n 1, 1) := by decide +kernel
theorem dX9_isCustomer1_22 : decode cX9_isCustomer1 22 = .ok (.bipush 10, 2) := by decide +kernel
theorem dX9_isCustomer1_24 : decode cX9_isCustomer1 24 = .ok (.irem, 1) := by decide +kernel
theorem dX9_isCustomer1_25 : decode cX9_isCustomer1 25 = .ok (.iconst 1, 1) := by decide +kernel
theorem dX9_isCustomer1_26 : decode cX9_isCustomer1 26 = .ok (.if_icmp .gt 18, 3) := by decide +kernel
theorem dX9_isCustomer1_29 : decode cX9_isCustomer1 29 = .ok (.iload_n 2, 1) := by decide +kernel
theorem dX9_isCustomer1_30 : decode cX9_isCustomer1 30 = .ok (.iconst 0, 1) := by decide +kernel
theorem dX9_isCustomer1_31 : decode cX9_isCustomer1 31 = .ok (.sipush 999, 3) := by decide +kernel
theorem dX9_isCustomer1_34 : decode cX9_isCustomer1 34 = .ok (.invokestatic 47, 3) := by decide +kernel
theorem dX9_isCustomer1_37 : decode cX9_isCustomer1 37 = .ok (.ifCond .eq 7, 3) := by decide +kernel
theorem dX9_isCustomer1_40 : decode cX9_isCustomer1 40 = .ok (.iconst 1, 1) := by decide +kernel
theorem dX9_isCustomer1_41 : decode cX9_isCustomer1 41 = .ok (.goto 4, 3) := by decide +kernel
theorem dX9_isCustomer1_44 : decode cX9_isCustomer1 44 = .ok (.iconst 0, 1) := by decide +kernel
theorem dX9_isCustomer1_45 : decode cX9_isCustomer1 45 = .ok (.ireturn, 1) := by decide +kernel
theorem dX9_addCustomer_0 : decode cX9_addCustomer 0 = .ok (.sipush 142, 3) := by decide +kernel
theorem dX9_addCustomer_3 : decode cX9_addCustomer 3 = .ok (.iconst 4, 1) := by decide +kernel
theorem dX9_addCustomer_4 : decode cX9_addCustomer 4 = .ok (.aload_n 0, 1) := by decide +kernel
theorem dX9_addCustomer_5 : decode cX9_addCustomer 5 = .ok (.getfield 7, 3) := by decide +kernel
theorem dX9_addCustomer_8 : decode cX9_addCustomer 8 = .ok (.iconst 1, 1) := by decide +kernel
theorem dX9_addCustomer_9 : decode cX9_addCustomer 9 = .ok (.iaload, 1) := by decide +kernel
theorem dX9_addCustomer_10 : decode cX9_addCustomer 10 = .ok (.imul, 1) := by decide +kernel
theorem dX9_addCustomer_11 : decode cX9_addCustomer 11 = .ok (.iadd, 1) := by decide +kernel
theorem dX9_addCustomer_12 : decode cX9_addCustomer 12 = .ok (.istore 4, 2) := by decide +kernel
theorem dX9_addCustomer_14 : decode cX9_addCustomer 14 = .ok (.aload_n 0, 1) := by decide +kernel
theorem dX9_addCustomer_15 : decode cX9_addCustomer 15 = .ok (.getfield 7, 3) := by decide +kernel
theorem dX9_addCustomer_18 : decode cX9_addCustomer 18 = .ok (.iload 4, 2) := by decide +kernel
theorem dX9_addCustomer_20 : decode cX9_addCustomer 20 = .ok (.iload_n 1, 1) := by decide +kernel
theorem dX9_addCustomer_21 : decode cX9_addCustomer 21 = .ok (.iastore, 1) := by decide +kernel
theorem dX9_addCustomer_22 : decode cX9_addCustomer 22 = .ok (.aload_n 0, 1) := by decide +kernel
theorem dX9_addCustomer_23 : decode cX9_addCustomer 23 = .ok (.getfield 7, 3) := by decide +kernel
theorem dX9_addCustomer_26 : decode cX9_addCustomer 26 = .ok (.iload 4, 2) := by decide +kernel
theorem dX9_addCustomer_28 : decode cX9_addCustomer 28 = .ok (.iconst 1, 1) := by decide +kernel
theorem dX9_addCustomer_29 : decode cX9_addCustomer 29 = .ok (.iadd, 1) := by decide +kernel
theorem dX9_addCustomer_30 : decode cX9_addCustomer 30 = .ok (.iload_n 2, 1) := by decide +kernel
theorem dX9_addCustomer_31 : decode cX9_addCustomer 31 = .ok (.bipush 10, 2) := by decide +kernel
theorem dX9_addCustomer_33 : decode cX9_addCustomer 33 = .ok (.idiv, 1) := by decide +kernel
theorem dX9_addCustomer_34 : decode cX9_addCustomer 34 = .ok (.iastore, 1) := by decide +kernel
theorem dX9_addCustomer_35 : decode cX9_addCustomer 35 = .ok (.aload_n 0, 1) := by decide +kernel
theorem dX9_addCustomer_36 : decode cX9_addCustomer 36 = .ok (.getfield 7, 3) := by decide +kernel
theorem dX9_addCustomer_39 : decode cX9_addCustomer 39 = .ok (.iload 4, 2) := by decide +kernel
theorem dX9_addCustomer_41 : decode cX9_addCustomer 41 = .ok (.iconst 2, 1) := by decide +kernel
theorem dX9_addCustomer_42 : decode cX9_addCustomer 42 = .ok (.iadd, 1) := by decide +kernel
theorem dX9_addCustomer_43 : decode cX9_addCustomer 43 = .ok (.iload_n 2, 1) := by decide +kernel
theorem dX9_addCustomer_44 : decode cX9_addCustomer 44 = .ok (.bipush 10, 2) := by decide +kernel
theorem dX9_addCustomer_46 : decode cX9_addCustomer 46 = .ok (.irem, 1) := by decide +kernel
theorem dX9_addCustomer_47 : decode cX9_addCustomer 47 = .ok (.iastore, 1) := by decide +kernel
theorem dX9_addCustomer_48 : decode cX9_addCustomer 48 = .ok (.aload_n 0, 1) := by decide +kernel
theorem dX9_addCustomer_49 : decode cX9_addCustomer 49 = .ok (.getfield 7, 3) := by decide +kernel
theorem dX9_addCustomer_52 : decode cX9_addCustomer 52 = .ok (.iload 4, 2) := by decide +kernel
theorem dX9_addCustomer_54 : decode cX9_addCustomer 54 = .ok (.iconst 3, 1) := by decide +kernel
theorem dX9_addCustomer_55 : decode cX9_addCustomer 55 = .ok (.iadd, 1) := by decide +kernel
theorem dX9_addCustomer_56 : decode cX9_addCustomer 56 = .ok (.iload_n 3, 1) := by decide +kernel
theorem dX9_addCustomer_57 : decode cX9_addCustomer 57 = .ok (.iastore, 1) := by decide +kernel
theorem dX9_addCustomer_58 : decode cX9_addCustomer 58 = .ok (.aload_n 0, 1) := by decide +kernel
theorem dX9_addCustomer_59 : decode cX9_addCustomer 59 = .ok (.getfield 7, 3) := by decide +kernel
theorem dX9_addCustomer_62 : decode cX9_addCustomer 62 = .ok (.iconst 1, 1) := by decide +kernel
theorem dX9_addCustomer_63 : decode cX9_addCustomer 63 = .ok (.dup2, 1) := by decide +kernel
theorem dX9_addCustomer_64 : decode cX9_addCustomer 64 = .ok (.iaload, 1) := by decide +kernel
theorem dX9_addCustomer_65 : decode cX9_addCustomer 65 = .ok (.iconst 1, 1) := by decide +kernel
theorem dX9_addCustomer_66 : decode cX9_addCustomer 66 = .ok (.iadd, 1) := by decide +kernel
theorem dX9_addCustomer_67 : decode cX9_addCustomer 67 = .ok (.iastore, 1) := by decide +kernel
theorem dX9_addCustomer_68 : decode cX9_addCustomer 68 = .ok (.return_, 1) := by decide +kernel
theorem dX9_customer_0 : decode cX9_customer 0 = .ok (.iload_n 1, 1) := by decide +kernel
theorem dX9_customer_1 : decode cX9_customer 1 = .ok (.iload_n 2, 1) := by decide +kernel
theorem dX9_customer_2 : decode cX9_customer 2 = .ok (.iload_n 3, 1) := by decide +kernel
theorem dX9_customer_3 : decode cX9_customer 3 = .ok (.invokestatic 89, 3) := by decide +kernel
theorem dX9_customer_6 : decode cX9_customer 6 = .ok (.ifCond .ne 9, 3) := by decide +kernel
theorem dX9_customer_9 : decode cX9_customer 9 = .ok (.aload_n 0, 1) := by decide +kernel
theorem dX9_customer_10 : decode cX9_customer 10 = .ok (.iconst 1, 1) := by decide +kernel
theorem dX9_customer_11 : decode cX9_customer 11 = .ok (.invokevirtual 70, 3) := by decide +kernel
theorem dX9_customer_14 : decode cX9_customer 14 = .ok (.ireturn, 1) := by decide +kernel
theorem dX9_customer_15 : decode cX9_customer 15 = .ok (.aload_n 0, 1) := by decide +kernel
theorem dX9_customer_16 : decode cX9_customer 16 = .ok (.getfield 7, 3) := by decide +kernel
theorem dX9_customer_19 : decode cX9_customer 19 = .ok (.iconst 1, 1) := by decide +kernel
theorem dX9_customer_20 : decode cX9_customer 20 = .ok (.iaload, 1) := by decide +kernel
theorem dX9_customer_21 : decode cX9_customer 21 = .ok (.bipush 10, 2) := by decide +kernel
theorem dX9_customer_23 : decode cX9_customer 23 = .ok (.if_icmp .ne 9, 3) := by decide +kernel
theorem dX9_customer_26 : decode cX9_customer 26 = .ok (.aload_n 0, 1) := by decide +kernel
theorem dX9_customer_27 : decode cX9_customer 27 = .ok (.iconst 4, 1) := by decide +kernel
theorem dX9_customer_28 : decode cX9_customer 28 = .ok (.invokevirtual 70, 3) := by decide +kernel
theorem dX9_customer_31 : decode cX9_customer 31 = .ok (.ireturn, 1) := by decide +kernel
theorem dX9_customer_32 : decode cX9_customer 32 = .ok (.aload_n 0, 1) := by decide +kernel
theorem dX9_customer_33 : decode cX9_customer 33 = .ok (.iload_n 1, 1) := by decide +kernel
theorem dX9_customer_34 : decode cX9_customer 34 = .ok (.iload_n 2, 1) := by decide +kernel
theorem dX9_customer_35 : decode cX9_customer 35 = .ok (.iload_n 3, 1) := by decide +kernel
theorem dX9_customer_36 : decode cX9_customer 36 = .ok (.invokevirtual 92, 3) := by decide +kernel
theorem dX9_customer_39 : decode cX9_customer 39 = .ok (.aload_n 0, 1) := by decide +kernel
theorem dX9_customer_40 : decode cX9_customer 40 = .ok (.getfield 7, 3) := by decide +kernel
theorem dX9_customer_43 : decode cX9_customer 43 = .ok (.iconst 1, 1) := by decide +kernel
theorem dX9_customer_44 : decode cX9_customer 44 = .ok (.iaload, 1) := by decide +kernel
theorem dX9_customer_45 : decode cX9_customer 45 = .ok (.iconst 1, 1) := by decide +kernel
theorem dX9_customer_46 : decode cX9_customer 46 = .ok (.isub, 1) := by decide +kernel
theorem dX9_customer_47 : decode cX9_customer 47 = .ok (.ireturn, 1) := by decide +kernel
theorem dX9_customerIs_0 : decode cX9_customerIs 0 = .ok (.aload_n 0, 1) := by decide +kernel
theorem dX9_customerIs_1 : decode cX9_customerIs 1 = .ok (.iload_n 1, 1) := by decide +kernel
theorem dX9_customerIs_2 : decode cX9_customerIs 2 = .ok (.invokevirtual 95, 3) := by decide +kernel
theorem dX9_customerIs_5 : decode cX9_customerIs 5 = .ok (.ifCond .eq 21, 3) := by decide +kernel
theorem dX9_customerIs_8 : decode cX9_customerIs 8 = .ok (.iload_n 2, 1) := by decide +kernel
theorem dX9_customerIs_9 : decode cX9_customerIs 9 = .ok (.iconst 0, 1) := by decide +kernel
theorem dX9_customerIs_10 : decode cX9_customerIs 10 = .ok (.iconst 3, 1) := by decide +kernel
theorem dX9_customerIs_11 : decode cX9_customerIs 11 = .ok (.invokestatic 47, 3) := by decide +kernel
theorem dX9_customerIs_14 : decode cX9_customerIs 14 = .ok (.ifCond .eq 12, 3) := by decide +kernel
theorem dX9_customerIs_17 : decode cX9_customerIs 17 = .ok (.aload_n 0, 1) := by decide +kernel
theorem dX9_customerIs_18 : decode cX9_customerIs 18 = .ok (.iload_n 1, 1) := by decide +kernel
theorem dX9_customerIs_19 : decode cX9_customerIs 19 = .ok (.iload_n 2, 1) := by decide +kernel
theorem dX9_customerIs_20 : decode cX9_customerIs 20 = .ok (.invokevirtual 98, 3) := by decide +kernel
theorem dX9_customerIs_23 : decode cX9_customerIs 23 = .ok (.goto 8, 3) := by decide +kernel
theorem dX9_customerIs_26 : decode cX9_customerIs 26 = .ok (.aload_n 0, 1) := by decide +kernel
theorem dX9_customerIs_27 : decode cX9_customerIs 27 = .ok (.iconst 1, 1) := by decide +kernel
theorem dX9_customerIs_28 : decode cX9_customerIs 28 = .ok (.invokevirtual 70, 3) := by decide +kernel
theorem dX9_customerIs_31 : decode cX9_customerIs 31 = .ok (.ireturn, 1) := by decide +kernel
theorem dX9_leave_0 : decode cX9_leave 0 = .ok (.aload_n 0, 1) := by decide +kernel
theorem dX9_leave_1 : decode cX9_leave 1 = .ok (.getfield 7, 3) := by decide +kernel
theorem dX9_leave_4 : decode cX9_leave 4 = .ok (.iconst 1, 1) := by decide +kernel
theorem dX9_leave_5 : decode cX9_leave 5 = .ok (.iaload, 1) := by decide +kernel
theorem dX9_leave_6 : decode cX9_leave 6 = .ok (.ifCond .ne 9, 3) := by decide +kernel
theorem dX9_leave_9 : decode cX9_leave 9 = .ok (.aload_n 0, 1) := by decide +kernel
theorem dX9_leave_10 : decode cX9_leave 10 = .ok (.iconst 3, 1) := by decide +kernel
theorem dX9_leave_11 : decode cX9_leave 11 = .ok (.invokevirtual 70, 3) := by decide +kernel
theorem dX9_leave_14 : decode cX9_leave 14 = .ok (.ireturn, 1) := by decide +kernel
theorem dX9_leave_15 : decode cX9_leave 15 = .ok (.aload_n 0, 1) := by decide +kernel
theorem dX9_leave_16 : decode cX9_leave 16 = .ok (.getfield 7, 3) := by decide +kernel
theorem dX9_leave_19 : decode cX9_leave 19 = .ok (.iconst 1, 1) := by decide +kernel
theorem dX9_leave_20 : decode cX9_leave 20 = .ok (.dup2, 1) := by decide +kernel
theorem dX9_leave_21 : decode cX9_leave 21 = .ok (.iaload, 1) := by decide +kernel
theorem dX9_leave_22 : decode cX9_leave 22 = .ok (.iconst 1, 1) := by decide +kernel
theorem dX9_leave_23 : decode cX9_leave 23 = .ok (.isub, 1) := by decide +kernel
theorem dX9_leave_24 : decode cX9_leave 24 = .ok (.iastore, 1) := by decide +kernel
theorem dX9_leave_25 : decode cX9_leave 25 = .ok (.aload_n 0, 1) := by decide +kernel
theorem dX9_leave_26 : decode cX9_leave 26 = .ok (.getfield 7, 3) := by decide +kernel
theorem dX9_leave_29 : decode cX9_leave 29 = .ok (.iconst 1, 1) := by decide +kernel
theorem dX9_leave_30 : decode cX9_leave 30 = .ok (.iaload, 1) := by decide +kernel
theorem dX9_leave_31 : decode cX9_leave 31 = .ok (.ireturn, 1) := by decide +kernel
theorem dX9_feed_0 : decode cX9_feed 0 = .ok (.iload_n 3, 1) := by decide +kernel
theorem dX9_feed_1 : decode cX9_feed 1 = .ok (.iconst 1, 1) := by decide +kernel
theorem dX9_feed_2 : decode cX9_feed 2 = .ok (.bipush 8, 2) := by decide +kernel
theorem dX9_feed_4 : decode cX9_feed 4 = .ok (.invokestatic 47, 3) := by decide +kernel
theorem dX9_feed_7 : decode cX9_feed 7 = .ok (.ifCond .ne 9, 3) := by decide +kernel
theorem dX9_feed_10 : decode cX9_feed 10 = .ok (.aload_n 0, 1) := by decide +kernel
theorem dX9_feed_11 : decode cX9_feed 11 = .ok (.iconst 1, 1) := by decide +kernel
theorem dX9_feed_12 : decode cX9_feed 12 = .ok (.invokevirtual 70, 3) := by decide +kernel
theorem dX9_feed_15 : decode cX9_feed 15 = .ok (.ireturn, 1) := by decide +kernel
theorem dX9_feed_16 : decode cX9_feed 16 = .ok (.aload_n 0, 1) := by decide +kernel
theorem dX9_feed_17 : decode cX9_feed 17 = .ok (.getfield 7, 3) := by decide +kernel
theorem dX9_feed_20 : decode cX9_feed 20 = .ok (.bipush 6, 2) := by decide +kernel
theorem dX9_feed_22 : decode cX9_feed 22 = .ok (.iaload, 1) := by decide +kernel
theorem dX9_feed_23 : decode cX9_feed 23 = .ok (.iload_n 3, 1) := by decide +kernel
theorem dX9_feed_24 : decode cX9_feed 24 = .ok (.iadd, 1) := by decide +kernel
theorem dX9_feed_25 : decode cX9_feed 25 = .ok (.bipush 60, 2) := by decide +kernel
theorem dX9_feed_27 : decode cX9_feed 27 = .ok (.if_icmp .le 9, 3) := by decide +kernel
theorem dX9_feed_30 : decode cX9_feed 30 = .ok (.aload_n 0, 1) := by decide +kernel
theorem dX9_feed_31 : decode cX9_feed 31 = .ok (.iconst 4, 1) := by decide +kernel
theorem dX9_feed_32 : decode cX9_feed 32 = .ok (.invokevirtual 70, 3) := by decide +kernel
theorem dX9_feed_35 : decode cX9_feed 35 = .ok (.ireturn, 1) := by decide +kernel
theorem dX9_feed_36 : decode cX9_feed 36 = .ok (.iconst 0, 1) := by decide +kernel
theorem dX9_feed_37 : decode cX9_feed 37 = .ok (.istore 4, 2) := by decide +kernel
theorem dX9_feed_39 : decode cX9_feed 39 = .ok (.iload 4, 2) := by decide +kernel
theorem dX9_feed_41 : decode cX9_feed 41 = .ok (.iload_n 3, 1) := by decide +kernel
theorem dX9_feed_42 : decode cX9_feed 42 = .ok (.if_icmp .ge 48, 3) := by decide +kernel
theorem dX9_feed_45 : decode cX9_feed 45 = .ok (.aload_n 0, 1) := by decide +kernel
theorem dX9_feed_46 : decode cX9_feed 46 = .ok (.getfield 7, 3) := by decide +kernel
theorem dX9_feed_49 : decode cX9_feed 49 = .ok (.sipush 432, 3) := by decide +kernel
theorem dX9_feed_52 : decode cX9_feed 52 = .ok (.aload_n 0, 1) := by decide +kernel
theorem dX9_feed_53 : decode cX9_feed 53 = .ok (.getfield 7, 3) := by decide +kernel
theorem dX9_feed_56 : decode cX9_feed 56 = .ok (.bipush 6, 2) := by decide +kernel
theorem dX9_feed_58 : decode cX9_feed 58 = .ok (.iaload, 1) := by decide +kernel
theorem dX9_feed_59 : decode cX9_feed 59 = .ok (.iadd, 1) := by decide +kernel
theorem dX9_feed_60 : decode cX9_feed 60 = .ok (.lload_n 1, 1) := by decide +kernel
theorem dX9_feed_61 : decode cX9_feed 61 = .ok (.bipush 8, 2) := by decide +kernel
theorem dX9_feed_63 : decode cX9_feed 63 = .ok (.iload 4, 2) := by decide +kernel
theorem dX9_feed_65 : decode cX9_feed 65 = .ok (.imul, 1) := by decide +kernel
theorem dX9_feed_66 : decode cX9_feed 66 = .ok (.lshr, 1) := by decide +kernel
theorem dX9_feed_67 : decode cX9_feed 67 = .ok (.ldc2_w 101, 3) := by decide +kernel
theorem dX9_feed_70 : decode cX9_feed 70 = .ok (.land, 1) := by decide +kernel
theorem dX9_feed_71 : decode cX9_feed 71 = .ok (.l2i, 1) := by decide +kernel
theorem dX9_feed_72 : decode cX9_feed 72 = .ok (.iastore, 1) := by decide +kernel
theorem dX9_feed_73 : decode cX9_feed 73 = .ok (.aload_n 0, 1) := by decide +kernel
theorem dX9_feed_74 : decode cX9_feed 74 = .ok (.getfield 7, 3) := by decide +kernel
theorem dX9_feed_77 : decode cX9_feed 77 = .ok (.bipush 6, 2) := by decide +kernel
theorem dX9_feed_79 : decode cX9_feed 79 = .ok (.dup2, 1) := by decide +kernel
theorem dX9_feed_80 : decode cX9_feed 80 = .ok (.iaload, 1) := by decide +kernel
theorem dX9_feed_81 : decode cX9_feed 81 = .ok (.iconst 1, 1) := by decide +kernel
theorem dX9_feed_82 : decode cX9_feed 82 = .ok (.iadd, 1) := by decide +kernel
theorem dX9_feed_83 : decode cX9_feed 83 = .ok (.iastore, 1) := by decide +kernel
theorem dX9_feed_84 : decode cX9_feed 84 = .ok (.iinc 4 1, 3) := by decide +kernel
theorem dX9_feed_87 : decode cX9_feed 87 = .ok (.goto (-48), 3) := by decide +kernel
theorem dX9_feed_90 : decode cX9_feed 90 = .ok (.aload_n 0, 1) := by decide +kernel
theorem dX9_feed_91 : decode cX9_feed 91 = .ok (.getfield 7, 3) := by decide +kernel
theorem dX9_feed_94 : decode cX9_feed 94 = .ok (.bipush 6, 2) := by decide +kernel
theorem dX9_feed_96 : decode cX9_feed 96 = .ok (.iaload, 1) := by decide +kernel
theorem dX9_feed_97 : decode cX9_feed 97 = .ok (.ireturn, 1) := by decide +kernel
theorem dX9_look_0 : decode cX9_look 0 = .ok (.aload_n 0, 1) := by decide +kernel
theorem dX9_look_1 : decode cX9_look 1 = .ok (.getfield 103, 3) := by decide +kernel
theorem dX9_look_4 : decode cX9_look 4 = .ok (.aload_n 0, 1) := by decide +kernel
theorem dX9_look_5 : decode cX9_look 5 = .ok (.getfield 7, 3) := by decide +kernel
theorem dX9_look_8 : decode cX9_look 8 = .ok (.bipush 6, 2) := by decide +kernel
theorem dX9_look_10 : decode cX9_look 10 = .ok (.iaload, 1) := by decide +kernel
theorem dX9_look_11 : decode cX9_look 11 = .ok (.if_icmp .ge 19, 3) := by decide +kernel
theorem dX9_look_14 : decode cX9_look 14 = .ok (.aload_n 0, 1) := by decide +kernel
theorem dX9_look_15 : decode cX9_look 15 = .ok (.getfield 7, 3) := by decide +kernel
theorem dX9_look_18 : decode cX9_look 18 = .ok (.sipush 432, 3) := by decide +kernel
theorem dX9_look_21 : decode cX9_look 21 = .ok (.aload_n 0, 1) := by decide +kernel
theorem dX9_look_22 : decode cX9_look 22 = .ok (.getfield 103, 3) := by decide +kernel
theorem dX9_look_25 : decode cX9_look 25 = .ok (.iadd, 1) := by decide +kernel
theorem dX9_look_26 : decode cX9_look 26 = .ok (.iaload, 1) := by decide +kernel
theorem dX9_look_27 : decode cX9_look 27 = .ok (.goto 4, 3) := by decide +kernel
theorem dX9_look_30 : decode cX9_look 30 = .ok (.iconst (-1), 1) := by decide +kernel
theorem dX9_look_31 : decode cX9_look 31 = .ok (.ireturn, 1) := by decide +kernel
theorem dX9_isName_0 : decode cX9_isName 0 = .ok (.iload_n 1, 1) := by decide +kernel
theorem dX9_isName_1 : decode cX9_isName 1 = .ok (.bipush 109, 2) := by decide +kernel
theorem dX9_isName_3 : decode cX9_isName 3 = .ok (.if_icmp .ne 5, 3) := by decide +kernel
theorem dX9_isName_6 : decode cX9_isName 6 = .ok (.iconst 1, 1) := by decide +kernel
theorem dX9_isName_7 : decode cX9_isName 7 = .ok (.ireturn, 1) := by decide +kernel
theorem dX9_isName_8 : decode cX9_isName 8 = .ok (.aload_n 0, 1) := by decide +kernel
theorem dX9_isName_9 : decode cX9_isName 9 = .ok (.getfield 107, 3) := by decide +kernel
theorem dX9_isName_12 : decode cX9_isName 12 = .ok (.ifCond .ne 29, 3) := by decide +kernel
theorem dX9_isName_15 : decode cX9_isName 15 = .ok (.iload_n 1, 1) := by decide +kernel
theorem dX9_isName_16 : decode cX9_isName 16 = .ok (.bipush 107, 2) := by decide +kernel
theorem dX9_isName_18 : decode cX9_isName 18 = .ok (.if_icmp .eq 15, 3) := by decide +kernel
theorem dX9_isName_21 : decode cX9_isName 21 = .ok (.iload_n 1, 1) := by decide +kernel
theorem dX9_isName_22 : decode cX9_isName 22 = .ok (.bipush 108, 2) := by decide +kernel
theorem dX9_isName_24 : decode cX9_isName 24 = .ok (.if_icmp .eq 9, 3) := by decide +kernel
theorem dX9_isName_27 : decode cX9_isName 27 = .ok (.iload_n 1, 1) := by decide +kernel
theorem dX9_isName_28 : decode cX9_isName 28 = .ok (.bipush 103, 2) := by decide +kernel
theorem dX9_isName_30 : decode cX9_isName 30 = .ok (.if_icmp .ne 7, 3) := by decide +kernel
theorem dX9_isName_33 : decode cX9_isName 33 = .ok (.iconst 1, 1) := by decide +kernel
theorem dX9_isName_34 : decode cX9_isName 34 = .ok (.goto 30, 3) := by decide +kernel
theorem dX9_isName_37 : decode cX9_isName 37 = .ok (.iconst 0, 1) := by decide +kernel
theorem dX9_isName_38 : decode cX9_isName 38 = .ok (.goto 26, 3) := by decide +kernel
theorem dX9_isName_41 : decode cX9_isName 41 = .ok (.iload_n 1, 1) := by decide +kernel
theorem dX9_isName_42 : decode cX9_isName 42 = .ok (.bipush 99, 2) := by decide +kernel
theorem dX9_isName_44 : decode cX9_isName 44 = .ok (.if_icmp .eq 15, 3) := by decide +kernel
theorem dX9_isName_47 : decode cX9_isName 47 = .ok (.iload_n 1, 1) := by decide +kernel
theorem dX9_isName_48 : decode cX9_isName 48 = .ok (.bipush 115, 2) := by decide +kernel
theorem dX9_isName_50 : decode cX9_isName 50 = .ok (.if_icmp .eq 9, 3) := by decide +kernel
theorem dX9_isName_53 : decode cX9_isName 53 = .ok (.iload_n 1, 1) := by decide +kernel
theorem dX9_isName_54 : decode cX9_isName 54 = .ok (.bipush 100, 2) := by decide +kernel
theorem dX9_isName_56 : decode cX9_isName 56 = .ok (.if_icmp .ne 7, 3) := by decide +kernel
theorem dX9_isName_59 : decode cX9_isName 59 = .ok (.iconst 1, 1) := by decide +kernel
theorem dX9_isName_60 : decode cX9_isName 60 = .ok (.goto 4, 3) := by decide +kernel
theorem dX9_isName_63 : decode cX9_isName 63 = .ok (.iconst 0, 1) := by decide +kernel
theorem dX9_isName_64 : decode cX9_isName 64 = .ok (.ireturn, 1) := by decide +kernel
theorem dX9_lays_0 : decode cX9_lays 0 = .ok (.aload_n 0, 1) := by decide +kernel
theorem dX9_lays_1 : decode cX9_lays 1 = .ok (.getfield 22, 3) := by decide +kernel
theorem dX9_lays_4 : decode cX9_lays 4 = .ok (.iconst 2, 1) := by decide +kernel
theorem dX9_lays_5 : decode cX9_lays 5 = .ok (.aload_n 0, 1) := by decide +kernel
theorem dX9_lays_6 : decode cX9_lays 6 = .ok (.getfield 110, 3) := by decide +kernel
theorem dX9_lays_9 : decode cX9_lays 9 = .ok (.imul, 1) := by decide +kernel
theorem dX9_lays_10 : decode cX9_lays 10 = .ok (.iload_n 1, 1) := by decide +kernel
theorem dX9_lays_11 : decode cX9_lays 11 = .ok (.iastore, 1) := by decide +kernel
theorem dX9_lays_12 : decode cX9_lays 12 = .ok (.aload_n 0, 1) := by decide +kernel
theorem dX9_lays_13 : decode cX9_lays 13 = .ok (.getfield 22, 3) := by decide +kernel
theorem dX9_lays_16 : decode cX9_lays 16 = .ok (.iconst 2, 1) := by decide +kernel
theorem dX9_lays_17 : decode cX9_lays 17 = .ok (.aload_n 0, 1) := by decide +kernel
theorem dX9_lays_18 : decode cX9_lays 18 = .ok (.getfield 110, 3) := by decide +kernel
theorem dX9_lays_21 : decode cX9_lays 21 = .ok (.imul, 1) := by decide +kernel
theorem dX9_lays_22 : decode cX9_lays 22 = .ok (.iconst 1, 1) := by decide +kernel
theorem dX9_lays_23 : decode cX9_lays 23 = .ok (.iadd, 1) := by decide +kernel
theorem dX9_lays_24 : decode cX9_lays 24 = .ok (.iload_n 2, 1) := by decide +kernel
theorem dX9_lays_25 : decode cX9_lays 25 = .ok (.iastore, 1) := by decide +kernel
theorem dX9_lays_26 : decode cX9_lays 26 = .ok (.aload_n 0, 1) := by decide +kernel
theorem dX9_lays_27 : decode cX9_lays 27 = .ok (.dup, 1) := by decide +kernel
theorem dX9_lays_28 : decode cX9_lays 28 = .ok (.getfield 110, 3) := by decide +kernel
theorem dX9_lays_31 : decode cX9_lays 31 = .ok (.iconst 1, 1) := by decide +kernel
theorem dX9_lays_32 : decode cX9_lays 32 = .ok (.iadd, 1) := by decide +kernel
theorem dX9_lays_33 : decode cX9_lays 33 = .ok (.putfield 110, 3) := by decide +kernel
theorem dX9_lays_36 : decode cX9_lays 36 = .ok (.return_, 1) := by decide +kernel
theorem dX9_whole_0 : decode cX9_whole 0 = .ok (.aload_n 0, 1) := by decide +kernel
theorem dX9_whole_1 : decode cX9_whole 1 = .ok (.invokevirtual 113, 3) := by decide +kernel
theorem dX9_whole_4 : decode cX9_whole 4 = .ok (.ifCond .ne 5, 3) := by decide +kernel
theorem dX9_whole_7 : decode cX9_whole 7 = .ok (.iconst 0, 1) := by decide +kernel
theorem dX9_whole_8 : decode cX9_whole 8 = .ok (.ireturn, 1) := by decide +kernel
theorem dX9_whole_9 : decode cX9_whole 9 = .ok (.aload_n 0, 1) := by decide +kernel
theorem dX9_whole_10 : decode cX9_whole 10 = .ok (.invokevirtual 117, 3) := by decide +kernel
theorem dX9_whole_13 : decode cX9_whole 13 = .ok (.bipush 124, 2) := by decide +kernel
theorem dX9_whole_15 : decode cX9_whole 15 = .ok (.if_icmp .ne 32, 3) := by decide +kernel
theorem dX9_whole_18 : decode cX9_whole 18 = .ok (.aload_n 0, 1) := by decide +kernel
theorem dX9_whole_19 : decode cX9_whole 19 = .ok (.dup, 1) := by decide +kernel
theorem dX9_whole_20 : decode cX9_whole 20 = .ok (.getfield 103, 3) := by decide +kernel
theorem dX9_whole_23 : decode cX9_whole 23 = .ok (.iconst 1, 1) := by decide +kernel
theorem dX9_whole_24 : decode cX9_whole 24 = .ok (.iadd, 1) := by decide +kernel
theorem dX9_whole_25 : decode cX9_whole 25 = .ok (.putfield 103, 3) := by decide +kernel
theorem dX9_whole_28 : decode cX9_whole 28 = .ok (.aload_n 0, 1) := by decide +kernel
theorem dX9_whole_29 : decode cX9_whole 29 = .ok (.invokevirtual 113, 3) := by decide +kernel
theorem dX9_whole_32 : decode cX9_whole 32 = .ok (.ifCond .ne 5, 3) := by decide +kernel
theorem dX9_whole_35 : decode cX9_whole 35 = .ok (.iconst 0, 1) := by decide +kernel
theorem dX9_whole_36 : decode cX9_whole 36 = .ok (.ireturn, 1) := by decide +kernel
theorem dX9_whole_37 : decode cX9_whole 37 = .ok (.aload_n 0, 1) := by decide +kernel
theorem dX9_whole_38 : decode cX9_whole 38 = .ok (.iconst 3, 1) := by decide +kernel
theorem dX9_whole_39 : decode cX9_whole 39 = .ok (.bipush 124, 2) := by decide +kernel
theorem dX9_whole_41 : decode cX9_whole 41 = .ok (.invokevirtual 121, 3) := by decide +kernel
theorem dX9_whole_44 : decode cX9_whole 44 = .ok (.goto (-35), 3) := by decide +kernel
theorem dX9_whole_47 : decode cX9_whole 47 = .ok (.iconst 1, 1) := by decide +kernel
theorem dX9_whole_48 : decode cX9_whole 48 = .ok (.ireturn, 1) := by decide +kernel
theorem dX9_both_0 : decode cX9_both 0 = .ok (.aload_n 0, 1) := by decide +kernel
theorem dX9_both_1 : decode cX9_both 1 = .ok (.invokevirtual 125, 3) := by decide +kernel
theorem dX9_both_4 : decode cX9_both 4 = .ok (.ifCond .ne 5, 3) := by decide +kernel
theorem dX9_both_7 : decode cX9_both 7 = .ok (.iconst 0, 1) := by decide +kernel
theorem dX9_both_8 : decode cX9_both 8 = .ok (.ireturn, 1) := by decide +kernel
theorem dX9_both_9 : decode cX9_both 9 = .ok (.aload_n 0, 1) := by decide +kernel
theorem dX9_both_10 : decode cX9_both 10 = .ok (.invokevirtual 117, 3) := by decide +kernel
theorem dX9_both_13 : decode cX9_both 13 = .ok (.bipush 38, 2) := by decide +kernel
theorem dX9_both_15 : decode cX9_both 15 = .ok (.if_icmp .ne 32, 3) := by decide +kernel
theorem dX9_both_18 : decode cX9_both 18 = .ok (.aload_n 0, 1) := by decide +kernel
theorem dX9_both_19 : decode cX9_both 19 = .ok (.dup, 1) := by decide +kernel
theorem dX9_both_20 : decode cX9_both 20 = .ok (.getfield 103, 3) := by decide +kernel
theorem dX9_both_23 : decode cX9_both 23 = .ok (.iconst 1, 1) := by decide +kernel
theorem dX9_both_24 : decode cX9_both 24 = .ok (.iadd, 1) := by decide +kernel
theorem dX9_both_25 : decode cX9_both 25 = .ok (.putfield 103, 3) := by decide +kernel
theorem dX9_both_28 : decode cX9_both 28 = .ok (.aload_n 0, 1) := by decide +kernel
theorem dX9_both_29 : decode cX9_both 29 = .ok (.invokevirtual 125, 3) := by decide +kernel
theorem dX9_both_32 : decode cX9_both 32 = .ok (.ifCond .ne 5, 3) := by decide +kernel
theorem dX9_both_35 : decode cX9_both 35 = .ok (.iconst 0, 1) := by decide +kernel
theorem dX9_both_36 : decode cX9_both 36 = .ok (.ireturn, 1) := by decide +kernel
theorem dX9_both_37 : decode cX9_both 37 = .ok (.aload_n 0, 1) := by decide +kernel
theorem dX9_both_38 : decode cX9_both 38 = .ok (.iconst 3, 1) := by decide +kernel
theorem dX9_both_39 : decode cX9_both 39 = .ok (.bipush 38, 2) := by decide +kernel
theorem dX9_both_41 : decode cX9_both 41 = .ok (.invokevirtual 121, 3) := by decide +kernel
theorem dX9_both_44 : decode cX9_both 44 = .ok (.goto (-35), 3) := by decide +kernel
theorem dX9_both_47 : decode cX9_both 47 = .ok (.iconst 1, 1) := by decide +kernel
theorem dX9_both_48 : decode cX9_both 48 = .ok (.ireturn, 1) := by decide +kernel
theorem dX9_compared_0 : decode cX9_compared 0 = .ok (.aload_n 0, 1) := by decide +kernel
theorem dX9_compared_1 : decode cX9_compared 1 = .ok (.invokevirtual 128, 3) := by decide +kernel
theorem dX9_compared_4 : decode cX9_compared 4 = .ok (.ifCond .ne 5, 3) := by decide +kernel
theorem dX9_compared_7 : decode cX9_compared 7 = .ok (.iconst 0, 1) := by decide +kernel
theorem dX9_compared_8 : decode cX9_compared 8 = .ok (.ireturn, 1) := by decide +kernel
theorem dX9_compared_9 : decode cX9_compared 9 = .ok (.aload_n 0, 1) := by decide +kernel
theorem dX9_compared_10 : decode cX9_compared 10 = .ok (.invokevirtual 117, 3) := by decide +kernel
theorem dX9_compared_13 : decode cX9_compared 13 = .ok (.istore_n 1, 1) := by decide +kernel
theorem dX9_compared_14 : decode cX9_compared 14 = .ok (.iload_n 1, 1) := by decide +kernel
theorem dX9_compared_15 : decode cX9_compared 15 = .ok (.bipush 60, 2) := by decide +kernel
theorem dX9_compared_17 : decode cX9_compared 17 = .ok (.if_icmp .eq 17, 3) := by decide +kernel
theorem dX9_compared_20 : decode cX9_compared 20 = .ok (.iload_n 1, 1) := by decide +kernel
theorem dX9_compared_21 : decode cX9_compared 21 = .ok (.bipush 61, 2) := by decide +kernel
theorem dX9_compared_23 : decode cX9_compared 23 = .ok (.if_icmp .eq 11, 3) := by decide +kernel
theorem dX9_compared_26 : decode cX9_compared 26 = .ok (.iload_n 1, 1) := by decide +kernel
theorem dX9_compared_27 : decode cX9_compared 27 = .ok (.bipush 62, 2) := by decide +kernel
theorem dX9_compared_29 : decode cX9_compared 29 = .ok (.if_icmp .eq 5, 3) := by decide +kernel
theorem dX9_compared_32 : decode cX9_compared 32 = .ok (.iconst 1, 1) := by decide +kernel
theorem dX9_compared_33 : decode cX9_compared 33 = .ok (.ireturn, 1) := by decide +kernel
theorem dX9_compared_34 : decode cX9_compared 34 = .ok (.aload_n 0, 1) := by decide +kernel
theorem dX9_compared_35 : decode cX9_compared 35 = .ok (.dup, 1) := by decide +kernel
theorem dX9_compared_36 : decode cX9_compared 36 = .ok (.getfield 103, 3) := by decide +kernel
theorem dX9_compared_39 : decode cX9_compared 39 = .ok (.iconst 1, 1) := by decide +kernel
theorem dX9_compared_40 : decode cX9_compared 40 = .ok (.iadd, 1) := by decide +kernel
theorem dX9_compared_41 : decode cX9_compared 41 = .ok (.putfield 103, 3) := by decide +kernel
theorem dX9_compared_44 : decode cX9_compared 44 = .ok (.aload_n 0, 1) := by decide +kernel
theorem dX9_compared_45 : decode cX9_compared 45 = .ok (.invokevirtual 128, 3) := by decide +kernel
theorem dX9_compared_48 : decode cX9_compared 48 = .ok (.ifCond .ne 5, 3) := by decide +kernel
theorem dX9_compared_51 : decode cX9_compared 51 = .ok (.iconst 0, 1) := by decide +kernel
theorem dX9_compared_52 : decode cX9_compared 52 = .ok (.ireturn, 1) := by decide +kernel
theorem dX9_compared_53 : decode cX9_compared 53 = .ok (.aload_n 0, 1) := by decide +kernel
theorem dX9_compared_54 : decode cX9_compared 54 = .ok (.iconst 3, 1) := by decide +kernel
theorem dX9_compared_55 : decode cX9_compared 55 = .ok (.iload_n 1, 1) := by decide +kernel
theorem dX9_compared_56 : decode cX9_compared 56 = .ok (.invokevirtual 121, 3) := by decide +kernel
theorem dX9_compared_59 : decode cX9_compared 59 = .ok (.iconst 1, 1) := by decide +kernel
theorem dX9_compared_60 : decode cX9_compared 60 = .ok (.ireturn, 1) := by decide +kernel
theorem dX9_sum_0 : decode cX9_sum 0 = .ok (.aload_n 0, 1) := by decide +kernel
theorem dX9_sum_1 : decode cX9_sum 1 = .ok (.invokevirtual 131, 3) := by decide +kernel
theorem dX9_sum_4 : decode cX9_sum 4 = .ok (.ifCond .ne 5, 3) := by decide +kernel
theorem dX9_sum_7 : decode cX9_sum 7 = .ok (.iconst 0, 1) := by decide +kernel
theorem dX9_sum_8 : decode cX9_sum 8 = .ok (.ireturn, 1) := by decide +kernel
theorem dX9_sum_9 : decode cX9_sum 9 = .ok (.aload_n 0, 1) := by decide +kernel
theorem dX9_sum_10 : decode cX9_sum 10 = .ok (.invokevirtual 117, 3) := by decide +kernel
theorem dX9_sum_13 : decode cX9_sum 13 = .ok (.bipush 43, 2) := by decide +kernel
theorem dX9_sum_15 : decode cX9_sum 15 = .ok (.if_icmp .eq 12, 3) := by decide +kernel
theorem dX9_sum_18 : decode cX9_sum 18 = .ok (.aload_n 0, 1) := by decide +kernel
theorem dX9_sum_19 : decode cX9_sum 19 = .ok (.invokevirtual 117, 3) := by decide +kernel
theorem dX9_sum_22 : decode cX9_sum 22 = .ok (.bipush 45, 2) := by decide +kernel
theorem dX9_sum_24 : decode cX9_sum 24 = .ok (.if_icmp .ne 36, 3) := by decide +kernel
theorem dX9_sum_27 : decode cX9_sum 27 = .ok (.aload_n 0, 1) := by decide +kernel
theorem dX9_sum_28 : decode cX9_sum 28 = .ok (.invokevirtual 117, 3) := by decide +kernel
theorem dX9_sum_31 : decode cX9_sum 31 = .ok (.istore_n 1, 1) := by decide +kernel
theorem dX9_sum_32 : decode cX9_sum 32 = .ok (.aload_n 0, 1) := by decide +kernel
theorem dX9_sum_33 : decode cX9_sum 33 = .ok (.dup, 1) := by decide +kernel
theorem dX9_sum_34 : decode cX9_sum 34 = .ok (.getfield 103, 3) := by decide +kernel
theorem dX9_sum_37 : decode cX9_sum 37 = .ok (.iconst 1, 1) := by decide +kernel
theorem dX9_sum_38 : decode cX9_sum 38 = .ok (.iadd, 1) := by decide +kernel
theorem dX9_sum_39 : decode cX9_sum 39 = .ok (.putfield 103, 3) := by decide +kernel
theorem dX9_sum_42 : decode cX9_sum 42 = .ok (.aload_n 0, 1) := by decide +kernel
theorem dX9_sum_43 : decode cX9_sum 43 = .ok (.invokevirtual 131, 3) := by decide +kernel
theorem dX9_sum_46 : decode cX9_sum 46 = .ok (.ifCond .ne 5, 3) := by decide +kernel
theorem dX9_sum_49 : decode cX9_sum 49 = .ok (.iconst 0, 1) := by decide +kernel
theorem dX9_sum_50 : decode cX9_sum 50 = .ok (.ireturn, 1) := by decide +kernel
theorem dX9_sum_51 : decode cX9_sum 51 = .ok (.aload_n 0, 1) := by decide +kernel
theorem dX9_sum_52 : decode cX9_sum 52 = .ok (.iconst 3, 1) := by decide +kernel
theorem dX9_sum_53 : decode cX9_sum 53 = .ok (.iload_n 1, 1) := by decide +kernel
theorem dX9_sum_54 : decode cX9_sum 54 = .ok (.invokevirtual 121, 3) := by decide +kernel
theorem dX9_sum_57 : decode cX9_sum 57 = .ok (.goto (-48), 3) := by decide +kernel
theorem dX9_sum_60 : decode cX9_sum 60 = .ok (.iconst 1, 1) := by decide +kernel
theorem dX9_sum_61 : decode cX9_sum 61 = .ok (.ireturn, 1) := by decide +kernel
theorem dX9_product_0 : decode cX9_product 0 = .ok (.aload_n 0, 1) := by decide +kernel
theorem dX9_product_1 : decode cX9_product 1 = .ok (.invokevirtual 134, 3) := by decide +kernel
theorem dX9_product_4 : decode cX9_product 4 = .ok (.ifCond .ne 5, 3) := by decide +kernel
theorem dX9_product_7 : decode cX9_product 7 = .ok (.iconst 0, 1) := by decide +kernel
theorem dX9_product_8 : decode cX9_product 8 = .ok (.ireturn, 1) := by decide +kernel
theorem dX9_product_9 : decode cX9_product 9 = .ok (.aload_n 0, 1) := by decide +kernel
theorem dX9_product_10 : decode cX9_product 10 = .ok (.invokevirtual 117, 3) := by decide +kernel
theorem dX9_product_13 : decode cX9_product 13 = .ok (.bipush 42, 2) := by decide +kernel
theorem dX9_product_15 : decode cX9_product 15 = .ok (.if_icmp .eq 21, 3) := by decide +kernel
theorem dX9_product_18 : decode cX9_product 18 = .ok (.aload_n 0, 1) := by decide +kernel
theorem dX9_product_19 : decode cX9_product 19 = .ok (.invokevirtual 117, 3) := by decide +kernel
theorem dX9_product_22 : decode cX9_product 22 = .ok (.bipush 47, 2) := by decide +kernel
theorem dX9_product_24 : decode cX9_product 24 = .ok (.if_icmp .eq 12, 3) := by decide +kernel
theorem dX9_product_27 : decode cX9_product 27 = .ok (.aload_n 0, 1) := by decide +kernel
theorem dX9_product_28 : decode cX9_product 28 = .ok (.invokevirtual 117, 3) := by decide +kernel
theorem dX9_product_31 : decode cX9_product 31 = .ok (.bipush 37, 2) := by decide +kernel
theorem dX9_product_33 : decode cX9_product 33 = .ok (.if_icmp .ne 36, 3) := by decide +kernel
theorem dX9_product_36 : decode cX9_product 36 = .ok (.aload_n 0, 1) := by decide +kernel
theorem dX9_product_37 : decode cX9_product 37 = .ok (.invokevirtual 117, 3) := by decide +kernel
theorem dX9_product_40 : decode cX9_product 40 = .ok (.istore_n 1, 1) := by decide +kernel
theorem dX9_product_41 : decode cX9_product 41 = .ok (.aload_n 0, 1) := by decide +kernel
theorem dX9_product_42 : decode cX9_product 42 = .ok (.dup, 1) := by decide +kernel
theorem dX9_product_43 : decode cX9_product 43 = .ok (.getfield 103, 3) := by decide +kernel
theorem dX9_product_46 : decode cX9_product 46 = .ok (.iconst 1, 1) := by decide +kernel
theorem dX9_product_47 : decode cX9_product 47 = .ok (.iadd, 1) := by decide +kernel
theorem dX9_product_48 : decode cX9_product 48 = .ok (.putfield 103, 3) := by decide +kernel
theorem dX9_product_51 : decode cX9_product 51 = .ok (.aload_n 0, 1) := by decide +kernel
theorem dX9_product_52 : decode cX9_product 52 = .ok (.invokevirtual 134, 3) := by decide +kernel
theorem dX9_product_55 : decode cX9_product 55 = .ok (.ifCond .ne 5, 3) := by decide +kernel
theorem dX9_product_58 : decode cX9_product 58 = .ok (.iconst 0, 1) := by decide +kernel
theorem dX9_product_59 : decode cX9_product 59 = .ok (.ireturn, 1) := by decide +kernel
theorem dX9_product_60 : decode cX9_product 60 = .ok (.aload_n 0, 1) := by decide +kernel
theorem dX9_product_61 : decode cX9_product 61 = .ok (.iconst 3, 1) := by decide +kernel
theorem dX9_product_62 : decode cX9_product 62 = .ok (.iload_n 1, 1) := by decide +kernel
theorem dX9_product_63 : decode cX9_product 63 = .ok (.invokevirtual 121, 3) := by decide +kernel
theorem dX9_product_66 : decode cX9_product 66 = .ok (.goto (-57), 3) := by decide +kernel
theorem dX9_product_69 : decode cX9_product 69 = .ok (.iconst 1, 1) := by decide +kernel
theorem dX9_product_70 : decode cX9_product 70 = .ok (.ireturn, 1) := by decide +kernel
theorem dX9_opens_0 : decode cX9_opens 0 = .ok (.aload_n 0, 1) := by decide +kernel
theorem dX9_opens_1 : decode cX9_opens 1 = .ok (.getfield 137, 3) := by decide +kernel
theorem dX9_opens_4 : decode cX9_opens 4 = .ok (.iconst 5, 1) := by decide +kernel
theorem dX9_opens_5 : decode cX9_opens 5 = .ok (.if_icmp .ne 5, 3) := by decide +kernel
theorem dX9_opens_8 : decode cX9_opens 8 = .ok (.iconst 0, 1) := by decide +kernel
theorem dX9_opens_9 : decode cX9_opens 9 = .ok (.ireturn, 1) := by decide +kernel
theorem dX9_opens_10 : decode cX9_opens 10 = .ok (.aload_n 0, 1) := by decide +kernel
theorem dX9_opens_11 : decode cX9_opens 11 = .ok (.dup, 1) := by decide +kernel
theorem dX9_opens_12 : decode cX9_opens 12 = .ok (.getfield 137, 3) := by decide +kernel
theorem dX9_opens_15 : decode cX9_opens 15 = .ok (.iconst 1, 1) := by decide +kernel
theorem dX9_opens_16 : decode cX9_opens 16 = .ok (.iadd, 1) := by decide +kernel
theorem dX9_opens_17 : decode cX9_opens 17 = .ok (.putfield 137, 3) := by decide +kernel
theorem dX9_opens_20 : decode cX9_opens 20 = .ok (.aload_n 0, 1) := by decide +kernel
theorem dX9_opens_21 : decode cX9_opens 21 = .ok (.dup, 1) := by decide +kernel
theorem dX9_opens_22 : decode cX9_opens 22 = .ok (.getfield 103, 3) := by decide +kernel
theorem dX9_opens_25 : decode cX9_opens 25 = .ok (.iconst 1, 1) := by decide +kernel
theorem dX9_opens_26 : decode cX9_opens 26 = .ok (.iadd, 1) := by decide +kernel
theorem dX9_opens_27 : decode cX9_opens 27 = .ok (.putfield 103, 3) := by decide +kernel
theorem dX9_opens_30 : decode cX9_opens 30 = .ok (.iconst 1, 1) := by decide +kernel
theorem dX9_opens_31 : decode cX9_opens 31 = .ok (.ireturn, 1) := by decide +kernel
theorem dX9_one_0 : decode cX9_one 0 = .ok (.aload_n 0, 1) := by decide +kernel
theorem dX9_one_1 : decode cX9_one 1 = .ok (.invokevirtual 117, 3) := by decide +kernel
theorem dX9_one_4 : decode cX9_one 4 = .ok (.istore_n 1, 1) := by decide +kernel
theorem dX9_one_5 : decode cX9_one 5 = .ok (.aload_n 0, 1) := by decide +kernel
theorem dX9_one_6 : decode cX9_one 6 = .ok (.iload_n 1, 1) := by decide +kernel
theorem dX9_one_7 : decode cX9_one 7 = .ok (.invokevirtual 140, 3) := by decide +kernel
theorem dX9_one_10 : decode cX9_one 10 = .ok (.ifCond .eq 21, 3) := by decide +kernel
theorem dX9_one_13 : decode cX9_one 13 = .ok (.aload_n 0, 1) := by decide +kernel
theorem dX9_one_14 : decode cX9_one 14 = .ok (.dup, 1) := by decide +kernel
theorem dX9_one_15 : decode cX9_one 15 = .ok (.getfield 103, 3) := by decide +kernel
theorem dX9_one_18 : decode cX9_one 18 = .ok (.iconst 1, 1) := by decide +kernel
theorem dX9_one_19 : decode cX9_one 19 = .ok (.iadd, 1) := by decide +kernel
theorem dX9_one_20 : decode cX9_one 20 = .ok (.putfield 103, 3) := by decide +kernel
theorem dX9_one_23 : decode cX9_one 23 = .ok (.aload_n 0, 1) := by decide +kernel
theorem dX9_one_24 : decode cX9_one 24 = .ok (.iconst 1, 1) := by decide +kernel
theorem dX9_one_25 : decode cX9_one 25 = .ok (.iload_n 1, 1) := by decide +kernel
theorem dX9_one_26 : decode cX9_one 26 = .ok (.invokevirtual 121, 3) := by decide +kernel
theorem dX9_one_29 : decode cX9_one 29 = .ok (.iconst 1, 1) := by decide +kernel
theorem dX9_one_30 : decode cX9_one 30 = .ok (.ireturn, 1) := by decide +kernel
theorem dX9_one_31 : decode cX9_one 31 = .ok (.iload_n 1, 1) := by decide +kernel
theorem dX9_one_32 : decode cX9_one 32 = .ok (.bipush 48, 2) := by decide +kernel
theorem dX9_one_34 : decode cX9_one 34 = .ok (.bipush 57, 2) := by decide +kernel
theorem dX9_one_36 : decode cX9_one 36 = .ok (.invokestatic 47, 3) := by decide +kernel
theorem dX9_one_39 : decode cX9_one 39 = .ok (.ifCond .eq 63, 3) := by decide +kernel
theorem dX9_one_42 : decode cX9_one 42 = .ok (.iconst 0, 1) := by decide +kernel
theorem dX9_one_43 : decode cX9_one 43 = .ok (.istore_n 2, 1) := by decide +kernel
theorem dX9_one_44 : decode cX9_one 44 = .ok (.iconst 0, 1) := by decide +kernel
theorem dX9_one_45 : decode cX9_one 45 = .ok (.istore_n 3, 1) := by decide +kernel
theorem dX9_one_46 : decode cX9_one 46 = .ok (.iload_n 3, 1) := by decide +kernel
theorem dX9_one_47 : decode cX9_one 47 = .ok (.iconst 4, 1) := by decide +kernel
theorem dX9_one_48 : decode cX9_one 48 = .ok (.if_icmp .ge 46, 3) := by decide +kernel
theorem dX9_one_51 : decode cX9_one 51 = .ok (.aload_n 0, 1) := by decide +kernel
theorem dX9_one_52 : decode cX9_one 52 = .ok (.invokevirtual 117, 3) := by decide +kernel
theorem dX9_one_55 : decode cX9_one 55 = .ok (.bipush 48, 2) := by decide +kernel
theorem dX9_one_57 : decode cX9_one 57 = .ok (.bipush 57, 2) := by decide +kernel
theorem dX9_one_59 : decode cX9_one 59 = .ok (.invokestatic 47, 3) := by decide +kernel
theorem dX9_one_62 : decode cX9_one 62 = .ok (.ifCond .eq 32, 3) := by decide +kernel
theorem dX9_one_65 : decode cX9_one 65 = .ok (.bipush 10, 2) := by decide +kernel
theorem dX9_one_67 : decode cX9_one 67 = .ok (.iload_n 2, 1) := by decide +kernel
theorem dX9_one_68 : decode cX9_one 68 = .ok (.imul, 1) := by decide +kernel
theorem dX9_one_69 : decode cX9_one 69 = .ok (.aload_n 0, 1) := by decide +kernel
theorem dX9_one_70 : decode cX9_one 70 = .ok (.invokevirtual 117, 3) := by decide +kernel
theorem dX9_one_73 : decode cX9_one 73 = .ok (.iadd, 1) := by decide +kernel
theorem dX9_one_74 : decode cX9_one 74 = .ok (.bipush 48, 2) := by decide +kernel
theorem dX9_one_76 : decode cX9_one 76 = .ok (.isub, 1) := by decide +kernel
theorem dX9_one_77 : decode cX9_one 77 = .ok (.istore_n 2, 1) := by decide +kernel
theorem dX9_one_78 : decode cX9_one 78 = .ok (.aload_n 0, 1) := by decide +kernel
theorem dX9_one_79 : decode cX9_one 79 = .ok (.dup, 1) := by decide +kernel
theorem dX9_one_80 : decode cX9_one 80 = .ok (.getfield 103, 3) := by decide +kernel
theorem dX9_one_83 : decode cX9_one 83 = .ok (.iconst 1, 1) := by decide +kernel
theorem dX9_one_84 : decode cX9_one 84 = .ok (.iadd, 1) := by decide +kernel
theorem dX9_one_85 : decode cX9_one 85 = .ok (.putfield 103, 3) := by decide +kernel
theorem dX9_one_88 : decode cX9_one 88 = .ok (.iinc 3 1, 3) := by decide +kernel
theorem dX9_one_91 : decode cX9_one 91 = .ok (.goto (-45), 3) := by decide +kernel
theorem dX9_one_94 : decode cX9_one 94 = .ok (.aload_n 0, 1) := by decide +kernel
theorem dX9_one_95 : decode cX9_one 95 = .ok (.iconst 0, 1) := by decide +kernel
theorem dX9_one_96 : decode cX9_one 96 = .ok (.iload_n 2, 1) := by decide +kernel
theorem dX9_one_97 : decode cX9_one 97 = .ok (.invokevirtual 121, 3) := by decide +kernel
theorem dX9_one_100 : decode cX9_one 100 = .ok (.iconst 1, 1) := by decide +kernel
theorem dX9_one_101 : decode cX9_one 101 = .ok (.ireturn, 1) := by decide +kernel
theorem dX9_one_102 : decode cX9_one 102 = .ok (.iload_n 1, 1) := by decide +kernel
theorem dX9_one_103 : decode cX9_one 103 = .ok (.bipush 33, 2) := by decide +kernel
theorem dX9_one_105 : decode cX9_one 105 = .ok (.if_icmp .ne 37, 3) := by decide +kernel
theorem dX9_one_108 : decode cX9_one 108 = .ok (.aload_n 0, 1) := by decide +kernel
theorem dX9_one_109 : decode cX9_one 109 = .ok (.invokevirtual 143, 3) := by decide +kernel
theorem dX9_one_112 : decode cX9_one 112 = .ok (.ifCond .eq 10, 3) := by decide +kernel
theorem dX9_one_115 : decode cX9_one 115 = .ok (.aload_n 0, 1) := by decide +kernel
theorem dX9_one_116 : decode cX9_one 116 = .ok (.invokevirtual 134, 3) := by decide +kernel
theorem dX9_one_119 : decode cX9_one 119 = .ok (.ifCond .ne 5, 3) := by decide +kernel
theorem dX9_one_122 : decode cX9_one 122 = .ok (.iconst 0, 1) := by decide +kernel
theorem dX9_one_123 : decode cX9_one 123 = .ok (.ireturn, 1) := by decide +kernel
theorem dX9_one_124 : decode cX9_one 124 = .ok (.aload_n 0, 1) := by decide +kernel
theorem dX9_one_125 : decode cX9_one 125 = .ok (.dup, 1) := by decide +kernel
theorem dX9_one_126 : decode cX9_one 126 = .ok (.getfield 137, 3) := by decide +kernel
theorem dX9_one_129 : decode cX9_one 129 = .ok (.iconst 1, 1) := by decide +kernel
theorem dX9_one_130 : decode cX9_one 130 = .ok (.isub, 1) := by decide +kernel
theorem dX9_one_131 : decode cX9_one 131 = .ok (.putfield 137, 3) := by decide +kernel
theorem dX9_one_134 : decode cX9_one 134 = .ok (.aload_n 0, 1) := by decide +kernel
theorem dX9_one_135 : decode cX9_one 135 = .ok (.iconst 2, 1) := by decide +kernel
theorem dX9_one_136 : decode cX9_one 136 = .ok (.iconst 0, 1) := by decide +kernel
theorem dX9_one_137 : decode cX9_one 137 = .ok (.invokevirtual 121, 3) := by decide +kernel
theorem dX9_one_140 : decode cX9_one 140 = .ok (.iconst 1, 1) := by decide +kernel
theorem dX9_one_141 : decode cX9_one 141 = .ok (.ireturn, 1) := by decide +kernel
theorem dX9_one_142 : decode cX9_one 142 = .ok (.iload_n 1, 1) := by decide +kernel
theorem dX9_one_143 : decode cX9_one 143 = .ok (.bipush 40, 2) := by decide +kernel
theorem dX9_one_145 : decode cX9_one 145 = .ok (.if_icmp .ne 26, 3) := by decide +kernel
theorem dX9_one_148 : decode cX9_one 148 = .ok (.aload_n 0, 1) := by decide +kernel
theorem dX9_one_149 : decode cX9_one 149 = .ok (.invokevirtual 143, 3) := by decide +kernel
theorem dX9_one_152 : decode cX9_one 152 = .ok (.ifCond .eq 19, 3) := by decide +kernel
theorem dX9_one_155 : decode cX9_one 155 = .ok (.aload_n 0, 1) := by decide +kernel
theorem dX9_one_156 : decode cX9_one 156 = .ok (.invokevirtual 146, 3) := by decide +kernel
theorem dX9_one_159 : decode cX9_one 159 = .ok (.ifCond .eq 12, 3) := by decide +kernel
theorem dX9_one_162 : decode cX9_one 162 = .ok (.aload_n 0, 1) := by decide +kernel
theorem dX9_one_163 : decode cX9_one 163 = .ok (.invokevirtual 117, 3) := by decide +kernel
theorem dX9_one_166 : decode cX9_one 166 = .ok (.bipush 41, 2) := by decide +kernel
theorem dX9_one_168 : decode cX9_one 168 = .ok (.if_icmp .eq 5, 3) := by decide +kernel
theorem dX9_one_171 : decode cX9_one 171 = .ok (.iconst 0, 1) := by decide +kernel
theorem dX9_one_172 : decode cX9_one 172 = .ok (.ireturn, 1) := by decide +kernel
theorem dX9_one_173 : decode cX9_one 173 = .ok (.aload_n 0, 1) := by decide +kernel
theorem dX9_one_174 : decode cX9_one 174 = .ok (.dup, 1) := by decide +kernel
theorem dX9_one_175 : decode cX9_one 175 = .ok (.getfield 103, 3) := by decide +kernel
theorem dX9_one_178 : decode cX9_one 178 = .ok (.iconst 1, 1) := by decide +kernel
theorem dX9_one_179 : decode cX9_one 179 = .ok (.iadd, 1) := by decide +kernel
theorem dX9_one_180 : decode cX9_one 180 = .ok (.putfield 103, 3) := by decide +kernel
theorem dX9_one_183 : decode cX9_one 183 = .ok (.aload_n 0, 1) := by decide +kernel
theorem dX9_one_184 : decode cX9_one 184 = .ok (.dup, 1) := by decide +kernel
theorem dX9_one_185 : decode cX9_one 185 = .ok (.getfield 137, 3) := by decide +kernel
theorem dX9_one_188 : decode cX9_one 188 = .ok (.iconst 1, 1) := by decide +kernel
theorem dX9_one_189 : decode cX9_one 189 = .ok (.isub, 1) := by decide +kernel
theorem dX9_one_190 : decode cX9_one 190 = .ok (.putfield 137, 3) := by decide +kernel
theorem dX9_one_193 : decode cX9_one 193 = .ok (.iconst 1, 1) := by decide +kernel
theorem dX9_one_194 : decode cX9_one 194 = .ok (.ireturn, 1) := by decide +kernel
theorem dX9_hasText_0 : decode cX9_hasText 0 = .ok (.aload_n 0, 1) := by decide +kernel
theorem dX9_hasText_1 : decode cX9_hasText 1 = .ok (.getfield 7, 3) := by decide +kernel
theorem dX9_hasText_4 : decode cX9_hasText 4 = .ok (.sipush 182, 3) := by decide +kernel
theorem dX9_hasText_7 : decode cX9_hasText 7 = .ok (.bipush 125, 2) := by decide +kernel
theorem dX9_hasText_9 : decode cX9_hasText 9 = .ok (.iload_n 1, 1) := by decide +kernel
theorem dX9_hasText_10 : decode cX9_hasText 10 = .ok (.imul, 1) := by decide +kernel
theorem dX9_hasText_11 : decode cX9_hasText 11 = .ok (.iadd, 1) := by decide +kernel
theorem dX9_hasText_12 : decode cX9_hasText 12 = .ok (.iaload, 1) := by decide +kernel
theorem dX9_hasText_13 : decode cX9_hasText 13 = .ok (.ifCond .le 7, 3) := by decide +kernel
theorem dX9_hasText_16 : decode cX9_hasText 16 = .ok (.iconst 1, 1) := by decide +kernel
theorem dX9_hasText_17 : decode cX9_hasText 17 = .ok (.goto 4, 3) := by decide +kernel
theorem dX9_hasText_20 : decode cX9_hasText 20 = .ok (.iconst 0, 1) := by decide +kernel
theorem dX9_hasText_21 : decode cX9_hasText 21 = .ok (.ireturn, 1) := by decide +kernel
theorem dX9_text_0 : decode cX9_text 0 = .ok (.iload_n 1, 1) := by decide +kernel
theorem dX9_text_1 : decode cX9_text 1 = .ok (.iconst 0, 1) := by decide +kernel
theorem dX9_text_2 : decode cX9_text 2 = .ok (.iconst 1, 1) := by decide +kernel
theorem dX9_text_3 : decode cX9_text 3 = .ok (.invokestatic 47, 3) := by decide +kernel
theorem dX9_text_6 : decode cX9_text 6 = .ok (.ifCond .ne 9, 3) := by decide +kernel
theorem dX9_text_9 : decode cX9_text 9 = .ok (.aload_n 0, 1) := by decide +kernel
theorem dX9_text_10 : decode cX9_text 10 = .ok (.iconst 1, 1) := by decide +kernel
theorem dX9_text_11 : decode cX9_text 11 = .ok (.invokevirtual 70, 3) := by decide +kernel
theorem dX9_text_14 : decode cX9_text 14 = .ok (.ireturn, 1) := by decide +kernel
theorem dX9_text_15 : decode cX9_text 15 = .ok (.aload_n 0, 1) := by decide +kernel
theorem dX9_text_16 : decode cX9_text 16 = .ok (.iload_n 1, 1) := by decide +kernel
theorem dX9_text_17 : decode cX9_text 17 = .ok (.putfield 107, 3) := by decide +kernel
theorem dX9_text_20 : decode cX9_text 20 = .ok (.aload_n 0, 1) := by decide +kernel
theorem dX9_text_21 : decode cX9_text 21 = .ok (.iconst 0, 1) := by decide +kernel
theorem dX9_text_22 : decode cX9_text 22 = .ok (.putfield 103, 3) := by decide +kernel
theorem dX9_text_25 : decode cX9_text 25 = .ok (.aload_n 0, 1) := by decide +kernel
theorem dX9_text_26 : decode cX9_text 26 = .ok (.iconst 0, 1) := by decide +kernel
theorem dX9_text_27 : decode cX9_text 27 = .ok (.putfield 137, 3) := by decide +kernel
theorem dX9_text_30 : decode cX9_text 30 = .ok (.aload_n 0, 1) := by decide +kernel
theorem dX9_text_31 : decode cX9_text 31 = .ok (.iconst 0, 1) := by decide +kernel
theorem dX9_text_32 : decode cX9_text 32 = .ok (.putfield 110, 3) := by decide +kernel
theorem dX9_text_35 : decode cX9_text 35 = .ok (.aload_n 0, 1) := by decide +kernel
theorem dX9_text_36 : decode cX9_text 36 = .ok (.invokevirtual 146, 3) := by decide +kernel
theorem dX9_text_39 : decode cX9_text 39 = .ok (.ifCond .eq 21, 3) := by decide +kernel
theorem dX9_text_42 : decode cX9_text 42 = .ok (.aload_n 0, 1) := by decide +kernel
theorem dX9_text_43 : decode cX9_text 43 = .ok (.getfield 103, 3) := by decide +kernel
theorem dX9_text_46 : decode cX9_text 46 = .ok (.aload_n 0, 1) := by decide +kernel
theorem dX9_text_47 : decode cX9_text 47 = .ok (.getfield 7, 3) := by decide +kernel
theorem dX9_text_50 : decode cX9_text 50 = .ok (.bipush 6, 2) := by decide +kernel
theorem dX9_text_52 : decode cX9_text 52 = .ok (.iaload, 1) := by decide +kernel
theorem dX9_text_53 : decode cX9_text 53 = .ok (.if_icmp .ne 7, 3) := by decide +kernel
theorem dX9_text_56 : decode cX9_text 56 = .ok (.iconst 1, 1) := by decide +kernel
theorem dX9_text_57 : decode cX9_text 57 = .ok (.goto 4, 3) := by decide +kernel
theorem dX9_text_60 : decode cX9_text 60 = .ok (.iconst 0, 1) := by decide +kernel
theorem dX9_text_61 : decode cX9_text 61 = .ok (.istore_n 2, 1) := by decide +kernel
theorem dX9_text_62 : decode cX9_text 62 = .ok (.aload_n 0, 1) := by decide +kernel
theorem dX9_text_63 : decode cX9_text 63 = .ok (.getfield 7, 3) := by decide +kernel
theorem dX9_text_66 : decode cX9_text 66 = .ok (.bipush 6, 2) := by decide +kernel
theorem dX9_text_68 : decode cX9_text 68 = .ok (.iconst 0, 1) := by decide +kernel
theorem dX9_text_69 : decode cX9_text 69 = .ok (.iastore, 1) := by decide +kernel
theorem dX9_text_70 : decode cX9_text 70 = .ok (.iload_n 2, 1) := by decide +kernel
theorem dX9_text_71 : decode cX9_text 71 = .ok (.ifCond .ne 11, 3) := by decide +kernel
theorem dX9_text_74 : decode cX9_text 74 = .ok (.bipush (-10), 2) := by decide +kernel
theorem dX9_text_76 : decode cX9_text 76 = .ok (.aload_n 0, 1) := by decide +kernel
theorem dX9_text_77 : decode cX9_text 77 = .ok (.getfield 103, 3) := by decide +kernel
theorem dX9_text_80 : decode cX9_text 80 = .ok (.isub, 1) := by decide +kernel
theorem dX9_text_81 : decode cX9_text 81 = .ok (.ireturn, 1) := by decide +kernel
theorem dX9_text_82 : decode cX9_text 82 = .ok (.sipush 182, 3) := by decide +kernel
theorem dX9_text_85 : decode cX9_text 85 = .ok (.bipush 125, 2) := by decide +kernel
theorem dX9_text_87 : decode cX9_text 87 = .ok (.iload_n 1, 1) := by decide +kernel
theorem dX9_text_88 : decode cX9_text 88 = .ok (.imul, 1) := by decide +kernel
theorem dX9_text_89 : decode cX9_text 89 = .ok (.iadd, 1) := by decide +kernel
theorem dX9_text_90 : decode cX9_text 90 = .ok (.istore_n 3, 1) := by decide +kernel
theorem dX9_text_91 : decode cX9_text 91 = .ok (.aload_n 0, 1) := by decide +kernel
theorem dX9_text_92 : decode cX9_text 92 = .ok (.getfield 7, 3) := by decide +kernel
theorem dX9_text_95 : decode cX9_text 95 = .ok (.iload_n 3, 1) := by decide +kernel
theorem dX9_text_96 : decode cX9_text 96 = .ok (.aload_n 0, 1) := by decide +kernel
theorem dX9_text_97 : decode cX9_text 97 = .ok (.getfield 110, 3) := by decide +kernel
theorem dX9_text_100 : decode cX9_text 100 = .ok (.iastore, 1) := by decide +kernel
theorem dX9_text_101 : decode cX9_text 101 = .ok (.iconst 0, 1) := by decide +kernel
theorem dX9_text_102 : decode cX9_text 102 = .ok (.istore 4, 2) := by decide +kernel
theorem dX9_text_104 : decode cX9_text 104 = .ok (.iload 4, 2) := by decide +kernel
theorem dX9_text_106 : decode cX9_text 106 = .ok (.iconst 2, 1) := by decide +kernel
theorem dX9_text_107 : decode cX9_text 107 = .ok (.aload_n 0, 1) := by decide +kernel
theorem dX9_text_108 : decode cX9_text 108 = .ok (.getfield 110, 3) := by decide +kernel
theorem dX9_text_111 : decode cX9_text 111 = .ok (.imul, 1) := by decide +kernel
theorem dX9_text_112 : decode cX9_text 112 = .ok (.if_icmp .ge 27, 3) := by decide +kernel
theorem dX9_text_115 : decode cX9_text 115 = .ok (.aload_n 0, 1) := by decide +kernel
theorem dX9_text_116 : decode cX9_text 116 = .ok (.getfield 7, 3) := by decide +kernel
theorem dX9_text_119 : decode cX9_text 119 = .ok (.iload_n 3, 1) := by decide +kernel
theorem dX9_text_120 : decode cX9_text 120 = .ok (.iconst 1, 1) := by decide +kernel
theorem dX9_text_121 : decode cX9_text 121 = .ok (.iadd, 1) := by decide +kernel
theorem dX9_text_122 : decode cX9_text 122 = .ok (.iload 4, 2) := by decide +kernel
theorem dX9_text_124 : decode cX9_text 124 = .ok (.iadd, 1) := by decide +kernel
theorem dX9_text_125 : decode cX9_text 125 = .ok (.aload_n 0, 1) := by decide +kernel
theorem dX9_text_126 : decode cX9_text 126 = .ok (.getfield 22, 3) := by decide +kernel
theorem dX9_text_129 : decode cX9_text 129 = .ok (.iload 4, 2) := by decide +kernel
theorem dX9_text_131 : decode cX9_text 131 = .ok (.iaload, 1) := by decide +kernel
theorem dX9_text_132 : decode cX9_text 132 = .ok (.iastore, 1) := by decide +kernel
theorem dX9_text_133 : decode cX9_text 133 = .ok (.iinc 4 1, 3) := by decide +kernel
theorem dX9_text_136 : decode cX9_text 136 = .ok (.goto (-32), 3) := by decide +kernel
theorem dX9_text_139 : decode cX9_text 139 = .ok (.iconst 1, 1) := by decide +kernel
theorem dX9_text_140 : decode cX9_text 140 = .ok (.ireturn, 1) := by decide +kernel
theorem dX9_untell_0 : decode cX9_untell 0 = .ok (.iload_n 1, 1) := by decide +kernel
theorem dX9_untell_1 : decode cX9_untell 1 = .ok (.iconst 0, 1) := by decide +kernel
theorem dX9_untell_2 : decode cX9_untell 2 = .ok (.iconst 1, 1) := by decide +kernel
theorem dX9_untell_3 : decode cX9_untell 3 = .ok (.invokestatic 47, 3) := by decide +kernel
theorem dX9_untell_6 : decode cX9_untell 6 = .ok (.ifCond .ne 9, 3) := by decide +kernel
theorem dX9_untell_9 : decode cX9_untell 9 = .ok (.aload_n 0, 1) := by decide +kernel
theorem dX9_untell_10 : decode cX9_untell 10 = .ok (.iconst 1, 1) := by decide +kernel
theorem dX9_untell_11 : decode cX9_untell 11 = .ok (.invokevirtual 70, 3) := by decide +kernel
theorem dX9_untell_14 : decode cX9_untell 14 = .ok (.ireturn, 1) := by decide +kernel
theorem dX9_untell_15 : decode cX9_untell 15 = .ok (.aload_n 0, 1) := by decide +kernel
theorem dX9_untell_16 : decode cX9_untell 16 = .ok (.iload_n 1, 1) := by decide +kernel
theorem dX9_untell_17 : decode cX9_untell 17 = .ok (.invokevirtual 149, 3) := by decide +kernel
theorem dX9_untell_20 : decode cX9_untell 20 = .ok (.ifCond .eq 7, 3) := by decide +kernel
theorem dX9_untell_23 : decode cX9_untell 23 = .ok (.iconst 1, 1) := by decide +kernel
theorem dX9_untell_24 : decode cX9_untell 24 = .ok (.goto 4, 3) := by decide +kernel
theorem dX9_untell_27 : decode cX9_untell 27 = .ok (.iconst 0, 1) := by decide +kernel
theorem dX9_untell_28 : decode cX9_untell 28 = .ok (.istore_n 2, 1) := by decide +kernel
theorem dX9_untell_29 : decode cX9_untell 29 = .ok (.aload_n 0, 1) := by decide +kernel
theorem dX9_untell_30 : decode cX9_untell 30 = .ok (.getfield 7, 3) := by decide +kernel
theorem dX9_untell_33 : decode cX9_untell 33 = .ok (.sipush 182, 3) := by decide +kernel
theorem dX9_untell_36 : decode cX9_untell 36 = .ok (.bipush 125, 2) := by decide +kernel
theorem dX9_untell_38 : decode cX9_untell 38 = .ok (.iload_n 1, 1) := by decide +kernel
theorem dX9_untell_39 : decode cX9_untell 39 = .ok (.imul, 1) := by decide +kernel
theorem dX9_untell_40 : decode cX9_untell 40 = .ok (.iadd, 1) := by decide +kernel
theorem dX9_untell_41 : decode cX9_untell 41 = .ok (.iconst 0, 1) := by decide +kernel
theorem dX9_untell_42 : decode cX9_untell 42 = .ok (.iastore, 1) := by decide +kernel
theorem dX9_untell_43 : decode cX9_untell 43 = .ok (.iload_n 2, 1) := by decide +kernel
theorem dX9_untell_44 : decode cX9_untell 44 = .ok (.ireturn, 1) := by decide +kernel
theorem dX9_joined_0 : decode cX9_joined 0 = .ok (.iload_n 0, 1) := by decide +kernel
theorem dX9_joined_1 : decode cX9_joined 1 = .ok (.tableswitch 217 37 62 #[153, 203, 217, 217, 217, 127, 119, 217, 123, 217, 131, 217, 217, 217, 217, 217, 217, 217, 217, 217, 217, 217, 217, 170, 192, 181], 119) := by decide +kernel
theorem dX9_joined_120 : decode cX9_joined 120 = .ok (.iload_n 1, 1) := by decide +kernel
theorem dX9_joined_121 : decode cX9_joined 121 = .ok (.iload_n 2, 1) := by decide +kernel
theorem dX9_joined_122 : decode cX9_joined 122 = .ok (.iadd, 1) := by decide +kernel
theorem dX9_joined_123 : decode cX9_joined 123 = .ok (.ireturn, 1) := by decide +kernel
theorem dX9_joined_124 : decode cX9_joined 124 = .ok (.iload_n 1, 1) := by decide +kernel
theorem dX9_joined_125 : decode cX9_joined 125 = .ok (.iload_n 2, 1) := by decide +kernel
theorem dX9_joined_126 : decode cX9_joined 126 = .ok (.isub, 1) := by decide +kernel
theorem dX9_joined_127 : decode cX9_joined 127 = .ok (.ireturn, 1) := by decide +kernel
theorem dX9_joined_128 : decode cX9_joined 128 = .ok (.iload_n 1, 1) := by decide +kernel
theorem dX9_joined_129 : decode cX9_joined 129 = .ok (.iload_n 2, 1) := by decide +kernel
theorem dX9_joined_130 : decode cX9_joined 130 = .ok (.imul, 1) := by decide +kernel
theorem dX9_joined_131 : decode cX9_joined 131 = .ok (.ireturn, 1) := by decide +kernel
theorem dX9_joined_132 : decode cX9_joined 132 = .ok (.iload_n 2, 1) := by decide +kernel
theorem dX9_joined_133 : decode cX9_joined 133 = .ok (.ifCond .ne 7, 3) := by decide +kernel
theorem dX9_joined_136 : decode cX9_joined 136 = .ok (.iconst 0, 1) := by decide +kernel
theorem dX9_joined_137 : decode cX9_joined 137 = .ok (.goto 16, 3) := by decide +kernel
theorem dX9_joined_140 : decode cX9_joined 140 = .ok (.iload_n 2, 1) := by decide +kernel
theorem dX9_joined_141 : decode cX9_joined 141 = .ok (.iconst (-1), 1) := by decide +kernel
theorem dX9_joined_142 : decode cX9_joined 142 = .ok (.if_icmp .ne 8, 3) := by decide +kernel
theorem dX9_joined_145 : decode cX9_joined 145 = .ok (.iload_n 1, 1) := by decide +kernel
theorem dX9_joined_146 : decode cX9_joined 146 = .ok (.ineg, 1) := by decide +kernel
theorem dX9_joined_147 : decode cX9_joined 147 = .ok (.goto 6, 3) := by decide +kernel
theorem dX9_joined_150 : decode cX9_joined 150 = .ok (.iload_n 1, 1) := by decide +kernel
theorem dX9_joined_151 : decode cX9_joined 151 = .ok (.iload_n 2, 1) := by decide +kernel
theorem dX9_joined_152 : decode cX9_joined 152 = .ok (.idiv, 1) := by decide +kernel
theorem dX9_joined_153 : decode cX9_joined 153 = .ok (.ireturn, 1) := by decide +kernel
theorem dX9_joined_154 : decode cX9_joined 154 = .ok (.iload_n 2, 1) := by decide +kernel
theorem dX9_joined_155 : decode cX9_joined 155 = .ok (.ifCond .eq 8, 3) := by decide +kernel
theorem dX9_joined_158 : decode cX9_joined 158 = .ok (.iload_n 2, 1) := by decide +kernel
theorem dX9_joined_159 : decode cX9_joined 159 = .ok (.iconst (-1), 1) := by decide +kernel
theorem dX9_joined_160 : decode cX9_joined 160 = .ok (.if_icmp .ne 7, 3) := by decide +kernel
theorem dX9_joined_163 : decode cX9_joined 163 = .ok (.iconst 0, 1) := by decide +kernel
theorem dX9_joined_164 : decode cX9_joined 164 = .ok (.goto 6, 3) := by decide +kernel
theorem dX9_joined_167 : decode cX9_joined 167 = .ok (.iload_n 1, 1) := by decide +kernel
theorem dX9_joined_168 : decode cX9_joined 168 = .ok (.iload_n 2, 1) := by decide +kernel
theorem dX9_joined_169 : decode cX9_joined 169 = .ok (.irem, 1) := by decide +kernel
theorem dX9_joined_170 : decode cX9_joined 170 = .ok (.ireturn, 1) := by decide +kernel
theorem dX9_joined_171 : decode cX9_joined 171 = .ok (.iload_n 1, 1) := by decide +kernel
theorem dX9_joined_172 : decode cX9_joined 172 = .ok (.iload_n 2, 1) := by decide +kernel
theorem dX9_joined_173 : decode cX9_joined 173 = .ok (.if_icmp .ge 7, 3) := by decide +kernel
theorem dX9_joined_176 : decode cX9_joined 176 = .ok (.iconst 1, 1) := by decide +kernel
theorem dX9_joined_177 : decode cX9_joined 177 = .ok (.goto 4, 3) := by decide +kernel
theorem dX9_joined_180 : decode cX9_joined 180 = .ok (.iconst 0, 1) := by decide +kernel
theorem dX9_joined_181 : decode cX9_joined 181 = .ok (.ireturn, 1) := by decide +kernel
theorem dX9_joined_182 : decode cX9_joined 182 = .ok (.iload_n 1, 1) := by decide +kernel
theorem dX9_joined_183 : decode cX9_joined 183 = .ok (.iload_n 2, 1) := by decide +kernel
theorem dX9_joined_184 : decode cX9_joined 184 = .ok (.if_icmp .le 7, 3) := by decide +kernel
theorem dX9_joined_187 : decode cX9_joined 187 = .ok (.iconst 1, 1) := by decide +kernel
theorem dX9_joined_188 : decode cX9_joined 188 = .ok (.goto 4, 3) := by decide +kernel
theorem dX9_joined_191 : decode cX9_joined 191 = .ok (.iconst 0, 1) := by decide +kernel
theorem dX9_joined_192 : decode cX9_joined 192 = .ok (.ireturn, 1) := by decide +kernel
theorem dX9_joined_193 : decode cX9_joined 193 = .ok (.iload_n 1, 1) := by decide +kernel
theorem dX9_joined_194 : decode cX9_joined 194 = .ok (.iload_n 2, 1) := by decide +kernel
theorem dX9_joined_195 : decode cX9_joined 195 = .ok (.if_icmp .ne 7, 3) := by decide +kernel
theorem dX9_joined_198 : decode cX9_joined 198 = .ok (.iconst 1, 1) := by decide +kernel
theorem dX9_joined_199 : decode cX9_joined 199 = .ok (.goto 4, 3) := by decide +kernel
theorem dX9_joined_202 : decode cX9_joined 202 = .ok (.iconst 0, 1) := by decide +kernel
theorem dX9_joined_203 : decode cX9_joined 203 = .ok (.ireturn, 1) := by decide +kernel
theorem dX9_joined_204 : decode cX9_joined 204 = .ok (.iload_n 1, 1) := by decide +kernel
theorem dX9_joined_205 : decode cX9_joined 205 = .ok (.ifCond .eq 11, 3) := by decide +kernel
theorem dX9_joined_208 : decode cX9_joined 208 = .ok (.iload_n 2, 1) := by decide +kernel
theorem dX9_joined_209 : decode cX9_joined 209 = .ok (.ifCond .eq 7, 3) := by decide +kernel
theorem dX9_joined_212 : decode cX9_joined 212 = .ok (.iconst 1, 1) := by decide +kernel
theorem dX9_joined_213 : decode cX9_joined 213 = .ok (.goto 4, 3) := by decide +kernel
theorem dX9_joined_216 : decode cX9_joined 216 = .ok (.iconst 0, 1) := by decide +kernel
theorem dX9_joined_217 : decode cX9_joined 217 = .ok (.ireturn, 1) := by decide +kernel
theorem dX9_joined_218 : decode cX9_joined 218 = .ok (.iload_n 1, 1) := by decide +kernel
theorem dX9_joined_219 : decode cX9_joined 219 = .ok (.ifCond .ne 7, 3) := by decide +kernel
theorem dX9_joined_222 : decode cX9_joined 222 = .ok (.iload_n 2, 1) := by decide +kernel
theorem dX9_joined_223 : decode cX9_joined 223 = .ok (.ifCond .eq 7, 3) := by decide +kernel
theorem dX9_joined_226 : decode cX9_joined 226 = .ok (.iconst 1, 1) := by decide +kernel
theorem dX9_joined_227 : decode cX9_joined 227 = .ok (.goto 4, 3) := by decide +kernel
theorem dX9_joined_230 : decode cX9_joined 230 = .ok (.iconst 0, 1) := by decide +kernel
theorem dX9_joined_231 : decode cX9_joined 231 = .ok (.ireturn, 1) := by decide +kernel
theorem dX9_worked_0 : decode cX9_worked 0 = .ok (.sipush 182, 3) := by decide +kernel
theorem dX9_worked_3 : decode cX9_worked 3 = .ok (.bipush 125, 2) := by decide +kernel
theorem dX9_worked_5 : decode cX9_worked 5 = .ok (.iload_n 1, 1) := by decide +kernel
theorem dX9_worked_6 : decode cX9_worked 6 = .ok (.imul, 1) := by decide +kernel
theorem dX9_worked_7 : decode cX9_worked 7 = .ok (.iadd, 1) := by decide +kernel
theorem dX9_worked_8 : decode cX9_worked 8 = .ok (.istore_n 2, 1) := by decide +kernel
theorem dX9_worked_9 : decode cX9_worked 9 = .ok (.iconst 0, 1) := by decide +kernel
theorem dX9_worked_10 : decode cX9_worked 10 = .ok (.istore_n 3, 1) := by decide +kernel
theorem dX9_worked_11 : decode cX9_worked 11 = .ok (.iconst 0, 1) := by decide +kernel
theorem dX9_worked_12 : decode cX9_worked 12 = .ok (.istore 4, 2) := by decide +kernel
theorem dX9_worked_14 : decode cX9_worked 14 = .ok (.iload 4, 2) := by decide +kernel
theorem dX9_worked_16 : decode cX9_worked 16 = .ok (.aload_n 0, 1) := by decide +kernel
theorem dX9_worked_17 : decode cX9_worked 17 = .ok (.getfield 7, 3) := by decide +kernel
theorem dX9_worked_20 : decode cX9_worked 20 = .ok (.iload_n 2, 1) := by decide +kernel
theorem dX9_worked_21 : decode cX9_worked 21 = .ok (.iaload, 1) := by decide +kernel
theorem dX9_worked_22 : decode cX9_worked 22 = .ok (.if_icmp .ge 142, 3) := by decide +kernel
theorem dX9_worked_25 : decode cX9_worked 25 = .ok (.aload_n 0, 1) := by decide +kernel
theorem dX9_worked_26 : decode cX9_worked 26 = .ok (.getfield 7, 3) := by decide +kernel
theorem dX9_worked_29 : decode cX9_worked 29 = .ok (.iload_n 2, 1) := by decide +kernel
theorem dX9_worked_30 : decode cX9_worked 30 = .ok (.iconst 1, 1) := by decide +kernel
theorem dX9_worked_31 : decode cX9_worked 31 = .ok (.iadd, 1) := by decide +kernel
theorem dX9_worked_32 : decode cX9_worked 32 = .ok (.iconst 2, 1) := by decide +kernel
theorem dX9_worked_33 : decode cX9_worked 33 = .ok (.iload 4, 2) := by decide +kernel
theorem dX9_worked_35 : decode cX9_worked 35 = .ok (.imul, 1) := by decide +kernel
theorem dX9_worked_36 : decode cX9_worked 36 = .ok (.iadd, 1) := by decide +kernel
theorem dX9_worked_37 : decode cX9_worked 37 = .ok (.iaload, 1) := by decide +kernel
theorem dX9_worked_38 : decode cX9_worked 38 = .ok (.istore 5, 2) := by decide +kernel
theorem dX9_worked_40 : decode cX9_worked 40 = .ok (.aload_n 0, 1) := by decide +kernel
theorem dX9_worked_41 : decode cX9_worked 41 = .ok (.getfield 7, 3) := by decide +kernel
theorem dX9_worked_44 : decode cX9_worked 44 = .ok (.iload_n 2, 1) := by decide +kernel
theorem dX9_worked_45 : decode cX9_worked 45 = .ok (.iconst 2, 1) := by decide +kernel
theorem dX9_worked_46 : decode cX9_worked 46 = .ok (.iadd, 1) := by decide +kernel
theorem dX9_worked_47 : decode cX9_worked 47 = .ok (.iconst 2, 1) := by decide +kernel
theorem dX9_worked_48 : decode cX9_worked 48 = .ok (.iload 4, 2) := by decide +kernel
theorem dX9_worked_50 : decode cX9_worked 50 = .ok (.imul, 1) := by decide +kernel
theorem dX9_worked_51 : decode cX9_worked 51 = .ok (.iadd, 1) := by decide +kernel
theorem dX9_worked_52 : decode cX9_worked 52 = .ok (.iaload, 1) := by decide +kernel
theorem dX9_worked_53 : decode cX9_worked 53 = .ok (.istore 6, 2) := by decide +kernel
theorem dX9_worked_55 : decode cX9_worked 55 = .ok (.iload 5, 2) := by decide +kernel
theorem dX9_worked_57 : decode cX9_worked 57 = .ok (.ifCond .eq 9, 3) := by decide +kernel
theorem dX9_worked_60 : decode cX9_worked 60 = .ok (.iload 5, 2) := by decide +kernel
theorem dX9_worked_62 : decode cX9_worked 62 = .ok (.iconst 1, 1) := by decide +kernel
theorem dX9_worked_63 : decode cX9_worked 63 = .ok (.if_icmp .ne 32, 3) := by decide +kernel
theorem dX9_worked_66 : decode cX9_worked 66 = .ok (.aload_n 0, 1) := by decide +kernel
theorem dX9_worked_67 : decode cX9_worked 67 = .ok (.getfield 28, 3) := by decide +kernel
theorem dX9_worked_70 : decode cX9_worked 70 = .ok (.iload_n 3, 1) := by decide +kernel
theorem dX9_worked_71 : decode cX9_worked 71 = .ok (.iload 5, 2) := by decide +kernel
theorem dX9_worked_73 : decode cX9_worked 73 = .ok (.ifCond .ne 8, 3) := by decide +kernel
theorem dX9_worked_76 : decode cX9_worked 76 = .ok (.iload 6, 2) := by decide +kernel
theorem dX9_worked_78 : decode cX9_worked 78 = .ok (.goto 10, 3) := by decide +kernel
theorem dX9_worked_81 : decode cX9_worked 81 = .ok (.aload_n 0, 1) := by decide +kernel
theorem dX9_worked_82 : decode cX9_worked 82 = .ok (.getfield 25, 3) := by decide +kernel
theorem dX9_worked_85 : decode cX9_worked 85 = .ok (.iload 6, 2) := by decide +kernel
theorem dX9_worked_87 : decode cX9_worked 87 = .ok (.iaload, 1) := by decide +kernel
theorem dX9_worked_88 : decode cX9_worked 88 = .ok (.iastore, 1) := by decide +kernel
theorem dX9_worked_89 : decode cX9_worked 89 = .ok (.iinc 3 1, 3) := by decide +kernel
theorem dX9_worked_92 : decode cX9_worked 92 = .ok (.goto 66, 3) := by decide +kernel
theorem dX9_worked_95 : decode cX9_worked 95 = .ok (.iload 5, 2) := by decide +kernel
theorem dX9_worked_97 : decode cX9_worked 97 = .ok (.iconst 2, 1) := by decide +kernel
theorem dX9_worked_98 : decode cX9_worked 98 = .ok (.if_icmp .ne 30, 3) := by decide +kernel
theorem dX9_worked_101 : decode cX9_worked 101 = .ok (.aload_n 0, 1) := by decide +kernel
theorem dX9_worked_102 : decode cX9_worked 102 = .ok (.getfield 28, 3) := by decide +kernel
theorem dX9_worked_105 : decode cX9_worked 105 = .ok (.iload_n 3, 1) := by decide +kernel
theorem dX9_worked_106 : decode cX9_worked 106 = .ok (.iconst 1, 1) := by decide +kernel
theorem dX9_worked_107 : decode cX9_worked 107 = .ok (.isub, 1) := by decide +kernel
theorem dX9_worked_108 : decode cX9_worked 108 = .ok (.aload_n 0, 1) := by decide +kernel
theorem dX9_worked_109 : decode cX9_worked 109 = .ok (.getfield 28, 3) := by decide +kernel
theorem dX9_worked_112 : decode cX9_worked 112 = .ok (.iload_n 3, 1) := by decide +kernel
theorem dX9_worked_113 : decode cX9_worked 113 = .ok (.iconst 1, 1) := by decide +kernel
theorem dX9_worked_114 : decode cX9_worked 114 = .ok (.isub, 1) := by decide +kernel
theorem dX9_worked_115 : decode cX9_worked 115 = .ok (.iaload, 1) := by decide +kernel
theorem dX9_worked_116 : decode cX9_worked 116 = .ok (.ifCond .ne 7, 3) := by decide +kernel
theorem dX9_worked_119 : decode cX9_worked 119 = .ok (.iconst 1, 1) := by decide +kernel
theorem dX9_worked_120 : decode cX9_worked 120 = .ok (.goto 4, 3) := by decide +kernel
theorem dX9_worked_123 : decode cX9_worked 123 = .ok (.iconst 0, 1) := by decide +kernel
theorem dX9_worked_124 : decode cX9_worked 124 = .ok (.iastore, 1) := by decide +kernel
theorem dX9_worked_125 : decode cX9_worked 125 = .ok (.goto 33, 3) := by decide +kernel
theorem dX9_worked_128 : decode cX9_worked 128 = .ok (.iinc 3 (-1), 3) := by decide +kernel
theorem dX9_worked_131 : decode cX9_worked 131 = .ok (.aload_n 0, 1) := by decide +kernel
theorem dX9_worked_132 : decode cX9_worked 132 = .ok (.getfield 28, 3) := by decide +kernel
theorem dX9_worked_135 : decode cX9_worked 135 = .ok (.iload_n 3, 1) := by decide +kernel
theorem dX9_worked_136 : decode cX9_worked 136 = .ok (.iconst 1, 1) := by decide +kernel
theorem dX9_worked_137 : decode cX9_worked 137 = .ok (.isub, 1) := by decide +kernel
theorem dX9_worked_138 : decode cX9_worked 138 = .ok (.iload 6, 2) := by decide +kernel
theorem dX9_worked_140 : decode cX9_worked 140 = .ok (.aload_n 0, 1) := by decide +kernel
theorem dX9_worked_141 : decode cX9_worked 141 = .ok (.getfield 28, 3) := by decide +kernel
theorem dX9_worked_144 : decode cX9_worked 144 = .ok (.iload_n 3, 1) := by decide +kernel
theorem dX9_worked_145 : decode cX9_worked 145 = .ok (.iconst 1, 1) := by decide +kernel
theorem dX9_worked_146 : decode cX9_worked 146 = .ok (.isub, 1) := by decide +kernel
theorem dX9_worked_147 : decode cX9_worked 147 = .ok (.iaload, 1) := by decide +kernel
theorem dX9_worked_148 : decode cX9_worked 148 = .ok (.aload_n 0, 1) := by decide +kernel
theorem dX9_worked_149 : decode cX9_worked 149 = .ok (.getfield 28, 3) := by decide +kernel
theorem dX9_worked_152 : decode cX9_worked 152 = .ok (.iload_n 3, 1) := by decide +kernel
theorem dX9_worked_153 : decode cX9_worked 153 = .ok (.iaload, 1) := by decide +kernel
theorem dX9_worked_154 : decode cX9_worked 154 = .ok (.invokestatic 152, 3) := by decide +kernel
theorem dX9_worked_157 : decode cX9_worked 157 = .ok (.iastore, 1) := by decide +kernel
theorem dX9_worked_158 : decode cX9_worked 158 = .ok (.iinc 4 1, 3) := by decide +kernel
theorem dX9_worked_161 : decode cX9_worked 161 = .ok (.goto (-147), 3) := by decide +kernel
theorem dX9_worked_164 : decode cX9_worked 164 = .ok (.aload_n 0, 1) := by decide +kernel
theorem dX9_worked_165 : decode cX9_worked 165 = .ok (.getfield 28, 3) := by decide +kernel
theorem dX9_worked_168 : decode cX9_worked 168 = .ok (.iconst 0, 1) := by decide +kernel
theorem dX9_worked_169 : decode cX9_worked 169 = .ok (.iaload, 1) := by decide +kernel
theorem dX9_worked_170 : decode cX9_worked 170 = .ok (.ireturn, 1) := by decide +kernel
theorem dX9_fillsTold_0 : decode cX9_fillsTold 0 = .ok (.aload_n 0, 1) := by decide +kernel
theorem dX9_fillsTold_1 : decode cX9_fillsTold 1 = .ok (.iconst 0, 1) := by decide +kernel
theorem dX9_fillsTold_2 : decode cX9_fillsTold 2 = .ok (.invokevirtual 149, 3) := by decide +kernel
theorem dX9_fillsTold_5 : decode cX9_fillsTold 5 = .ok (.ifCond .ne 12, 3) := by decide +kernel
theorem dX9_fillsTold_8 : decode cX9_fillsTold 8 = .ok (.aload_n 0, 1) := by decide +kernel
theorem dX9_fillsTold_9 : decode cX9_fillsTold 9 = .ok (.iload_n 1, 1) := by decide +kernel
theorem dX9_fillsTold_10 : decode cX9_fillsTold 10 = .ok (.iconst 3, 1) := by decide +kernel
theorem dX9_fillsTold_11 : decode cX9_fillsTold 11 = .ok (.iload_n 2, 1) := by decide +kernel
theorem dX9_fillsTold_12 : decode cX9_fillsTold 12 = .ok (.iadd, 1) := by decide +kernel
theorem dX9_fillsTold_13 : decode cX9_fillsTold 13 = .ok (.invokevirtual 51, 3) := by decide +kernel
theorem dX9_fillsTold_16 : decode cX9_fillsTold 16 = .ok (.ireturn, 1) := by decide +kernel
theorem dX9_fillsTold_17 : decode cX9_fillsTold 17 = .ok (.aload_n 0, 1) := by decide +kernel
theorem dX9_fillsTold_18 : decode cX9_fillsTold 18 = .ok (.iload_n 1, 1) := by decide +kernel
theorem dX9_fillsTold_19 : decode cX9_fillsTold 19 = .ok (.invokevirtual 55, 3) := by decide +kernel
theorem dX9_fillsTold_22 : decode cX9_fillsTold 22 = .ok (.istore_n 3, 1) := by decide +kernel
theorem dX9_fillsTold_23 : decode cX9_fillsTold 23 = .ok (.aload_n 0, 1) := by decide +kernel
theorem dX9_fillsTold_24 : decode cX9_fillsTold 24 = .ok (.getfield 25, 3) := by decide +kernel
theorem dX9_fillsTold_27 : decode cX9_fillsTold 27 = .ok (.bipush 107, 2) := by decide +kernel
theorem dX9_fillsTold_29 : decode cX9_fillsTold 29 = .ok (.aload_n 0, 1) := by decide +kernel
theorem dX9_fillsTold_30 : decode cX9_fillsTold 30 = .ok (.iload_n 1, 1) := by decide +kernel
theorem dX9_fillsTold_31 : decode cX9_fillsTold 31 = .ok (.iconst 3, 1) := by decide +kernel
theorem dX9_fillsTold_32 : decode cX9_fillsTold 32 = .ok (.iload_n 2, 1) := by decide +kernel
theorem dX9_fillsTold_33 : decode cX9_fillsTold 33 = .ok (.iadd, 1) := by decide +kernel
theorem dX9_fillsTold_34 : decode cX9_fillsTold 34 = .ok (.invokevirtual 51, 3) := by decide +kernel
theorem dX9_fillsTold_37 : decode cX9_fillsTold 37 = .ok (.iastore, 1) := by decide +kernel
theorem dX9_fillsTold_38 : decode cX9_fillsTold 38 = .ok (.aload_n 0, 1) := by decide +kernel
theorem dX9_fillsTold_39 : decode cX9_fillsTold 39 = .ok (.getfield 25, 3) := by decide +kernel
theorem dX9_fillsTold_42 : decode cX9_fillsTold 42 = .ok (.bipush 108, 2) := by decide +kernel
theorem dX9_fillsTold_44 : decode cX9_fillsTold 44 = .ok (.iload_n 3, 1) := by decide +kernel
theorem dX9_fillsTold_45 : decode cX9_fillsTold 45 = .ok (.iconst (-1), 1) := by decide +kernel
theorem dX9_fillsTold_46 : decode cX9_fillsTold 46 = .ok (.if_icmp .ne 7, 3) := by decide +kernel
theorem dX9_fillsTold_49 : decode cX9_fillsTold 49 = .ok (.iconst 0, 1) := by decide +kernel
theorem dX9_fillsTold_50 : decode cX9_fillsTold 50 = .ok (.goto 12, 3) := by decide +kernel
theorem dX9_fillsTold_53 : decode cX9_fillsTold 53 = .ok (.aload_n 0, 1) := by decide +kernel
theorem dX9_fillsTold_54 : decode cX9_fillsTold 54 = .ok (.iload_n 3, 1) := by decide +kernel
theorem dX9_fillsTold_55 : decode cX9_fillsTold 55 = .ok (.bipush 9, 2) := by decide +kernel
theorem dX9_fillsTold_57 : decode cX9_fillsTold 57 = .ok (.iload_n 2, 1) := by decide +kernel
theorem dX9_fillsTold_58 : decode cX9_fillsTold 58 = .ok (.iadd, 1) := by decide +kernel
theorem dX9_fillsTold_59 : decode cX9_fillsTold 59 = .ok (.invokevirtual 51, 3) := by decide +kernel
theorem dX9_fillsTold_62 : decode cX9_fillsTold 62 = .ok (.iastore, 1) := by decide +kernel
theorem dX9_fillsTold_63 : decode cX9_fillsTold 63 = .ok (.aload_n 0, 1) := by decide +kernel
theorem dX9_fillsTold_64 : decode cX9_fillsTold 64 = .ok (.getfield 25, 3) := by decide +kernel
theorem dX9_fillsTold_67 : decode cX9_fillsTold 67 = .ok (.bipush 103, 2) := by decide +kernel
theorem dX9_fillsTold_69 : decode cX9_fillsTold 69 = .ok (.iload_n 2, 1) := by decide +kernel
theorem dX9_fillsTold_70 : decode cX9_fillsTold 70 = .ok (.iastore, 1) := by decide +kernel
theorem dX9_fillsTold_71 : decode cX9_fillsTold 71 = .ok (.aload_n 0, 1) := by decide +kernel
theorem dX9_fillsTold_72 : decode cX9_fillsTold 72 = .ok (.getfield 25, 3) := by decide +kernel
theorem dX9_fillsTold_75 : decode cX9_fillsTold 75 = .ok (.bipush 109, 2) := by decide +kernel
theorem dX9_fillsTold_77 : decode cX9_fillsTold 77 = .ok (.aload_n 0, 1) := by decide +kernel
theorem dX9_fillsTold_78 : decode cX9_fillsTold 78 = .ok (.iload_n 1, 1) := by decide +kernel
theorem dX9_fillsTold_79 : decode cX9_fillsTold 79 = .ok (.iconst 1, 1) := by decide +kernel
theorem dX9_fillsTold_80 : decode cX9_fillsTold 80 = .ok (.invokevirtual 51, 3) := by decide +kernel
theorem dX9_fillsTold_83 : decode cX9_fillsTold 83 = .ok (.iastore, 1) := by decide +kernel
theorem dX9_fillsTold_84 : decode cX9_fillsTold 84 = .ok (.aload_n 0, 1) := by decide +kernel
theorem dX9_fillsTold_85 : decode cX9_fillsTold 85 = .ok (.iconst 0, 1) := by decide +kernel
theorem dX9_fillsTold_86 : decode cX9_fillsTold 86 = .ok (.invokevirtual 156, 3) := by decide +kernel
theorem dX9_fillsTold_89 : decode cX9_fillsTold 89 = .ok (.ireturn, 1) := by decide +kernel
theorem dX9_fillsOf_0 : decode cX9_fillsOf 0 = .ok (.aload_n 0, 1) := by decide +kernel
theorem dX9_fillsOf_1 : decode cX9_fillsOf 1 = .ok (.iload_n 1, 1) := by decide +kernel
theorem dX9_fillsOf_2 : decode cX9_fillsOf 2 = .ok (.iconst 3, 1) := by decide +kernel
theorem dX9_fillsOf_3 : decode cX9_fillsOf 3 = .ok (.iload_n 2, 1) := by decide +kernel
theorem dX9_fillsOf_4 : decode cX9_fillsOf 4 = .ok (.iadd, 1) := by decide +kernel
theorem dX9_fillsOf_5 : decode cX9_fillsOf 5 = .ok (.invokevirtual 51, 3) := by decide +kernel
theorem dX9_fillsOf_8 : decode cX9_fillsOf 8 = .ok (.istore_n 3, 1) := by decide +kernel
theorem dX9_fillsOf_9 : decode cX9_fillsOf 9 = .ok (.aload_n 0, 1) := by decide +kernel
theorem dX9_fillsOf_10 : decode cX9_fillsOf 10 = .ok (.aload_n 0, 1) := by decide +kernel
theorem dX9_fillsOf_11 : decode cX9_fillsOf 11 = .ok (.iload_n 1, 1) := by decide +kernel
theorem dX9_fillsOf_12 : decode cX9_fillsOf 12 = .ok (.invokevirtual 55, 3) := by decide +kernel
theorem dX9_fillsOf_15 : decode cX9_fillsOf 15 = .ok (.iload_n 2, 1) := by decide +kernel
theorem dX9_fillsOf_16 : decode cX9_fillsOf 16 = .ok (.bipush 9, 2) := by decide +kernel
theorem dX9_fillsOf_18 : decode cX9_fillsOf 18 = .ok (.invokevirtual 59, 3) := by decide +kernel
theorem dX9_fillsOf_21 : decode cX9_fillsOf 21 = .ok (.ifCond .eq 7, 3) := by decide +kernel
theorem dX9_fillsOf_24 : decode cX9_fillsOf 24 = .ok (.iload_n 3, 1) := by decide +kernel
theorem dX9_fillsOf_25 : decode cX9_fillsOf 25 = .ok (.goto 4, 3) := by decide +kernel
theorem dX9_fillsOf_28 : decode cX9_fillsOf 28 = .ok (.iconst 0, 1) := by decide +kernel
theorem dX9_fillsOf_29 : decode cX9_fillsOf 29 = .ok (.istore 4, 2) := by decide +kernel
theorem dX9_fillsOf_31 : decode cX9_fillsOf 31 = .ok (.iload_n 3, 1) := by decide +kernel
theorem dX9_fillsOf_32 : decode cX9_fillsOf 32 = .ok (.istore 5, 2) := by decide +kernel
theorem dX9_fillsOf_34 : decode cX9_fillsOf 34 = .ok (.aload_n 0, 1) := by decide +kernel
theorem dX9_fillsOf_35 : decode cX9_fillsOf 35 = .ok (.iload_n 1, 1) := by decide +kernel
theorem dX9_fillsOf_36 : decode cX9_fillsOf 36 = .ok (.iconst 0, 1) := by decide +kernel
theorem dX9_fillsOf_37 : decode cX9_fillsOf 37 = .ok (.invokevirtual 51, 3) := by decide +kernel
theorem dX9_fillsOf_40 : decode cX9_fillsOf 40 = .ok (.tableswitch 103 1 6 #[40, 47, 55, 69, 47, 92], 40) := by decide +kernel
theorem dX9_fillsOf_80 : decode cX9_fillsOf 80 = .ok (.iload 4, 2) := by decide +kernel
theorem dX9_fillsOf_82 : decode cX9_fillsOf 82 = .ok (.istore 5, 2) := by decide +kernel
theorem dX9_fillsOf_84 : decode cX9_fillsOf 84 = .ok (.goto 59, 3) := by decide +kernel
theorem dX9_fillsOf_87 : decode cX9_fillsOf 87 = .ok (.iload_n 3, 1) := by decide +kernel
theorem dX9_fillsOf_88 : decode cX9_fillsOf 88 = .ok (.iconst 2, 1) := by decide +kernel
theorem dX9_fillsOf_89 : decode cX9_fillsOf 89 = .ok (.idiv, 1) := by decide +kernel
theorem dX9_fillsOf_90 : decode cX9_fillsOf 90 = .ok (.istore 5, 2) := by decide +kernel
theorem dX9_fillsOf_92 : decode cX9_fillsOf 92 = .ok (.goto 51, 3) := by decide +kernel
theorem dX9_fillsOf_95 : decode cX9_fillsOf 95 = .ok (.iload_n 3, 1) := by decide +kernel
theorem dX9_fillsOf_96 : decode cX9_fillsOf 96 = .ok (.ifCond .le 7, 3) := by decide +kernel
theorem dX9_fillsOf_99 : decode cX9_fillsOf 99 = .ok (.iconst 1, 1) := by decide +kernel
theorem dX9_fillsOf_100 : decode cX9_fillsOf 100 = .ok (.goto 4, 3) := by decide +kernel
theorem dX9_fillsOf_103 : decode cX9_fillsOf 103 = .ok (.iconst 0, 1) := by decide +kernel
theorem dX9_fillsOf_104 : decode cX9_fillsOf 104 = .ok (.istore 5, 2) := by decide +kernel
theorem dX9_fillsOf_106 : decode cX9_fillsOf 106 = .ok (.goto 37, 3) := by decide +kernel
theorem dX9_fillsOf_109 : decode cX9_fillsOf 109 = .ok (.iload 4, 2) := by decide +kernel
theorem dX9_fillsOf_111 : decode cX9_fillsOf 111 = .ok (.ifCond .le 15, 3) := by decide +kernel
theorem dX9_fillsOf_114 : decode cX9_fillsOf 114 = .ok (.iload 4, 2) := by decide +kernel
theorem dX9_fillsOf_116 : decode cX9_fillsOf 116 = .ok (.aload_n 0, 1) := by decide +kernel
theorem dX9_fillsOf_117 : decode cX9_fillsOf 117 = .ok (.iload_n 1, 1) := by decide +kernel
theorem dX9_fillsOf_118 : decode cX9_fillsOf 118 = .ok (.iconst 1, 1) := by decide +kernel
theorem dX9_fillsOf_119 : decode cX9_fillsOf 119 = .ok (.invokevirtual 51, 3) := by decide +kernel
theorem dX9_fillsOf_122 : decode cX9_fillsOf 122 = .ok (.iadd, 1) := by decide +kernel
theorem dX9_fillsOf_123 : decode cX9_fillsOf 123 = .ok (.goto 4, 3) := by decide +kernel
theorem dX9_fillsOf_126 : decode cX9_fillsOf 126 = .ok (.iconst 0, 1) := by decide +kernel
theorem dX9_fillsOf_127 : decode cX9_fillsOf 127 = .ok (.istore 5, 2) := by decide +kernel
theorem dX9_fillsOf_129 : decode cX9_fillsOf 129 = .ok (.goto 14, 3) := by decide +kernel
theorem dX9_fillsOf_132 : decode cX9_fillsOf 132 = .ok (.aload_n 0, 1) := by decide +kernel
theorem dX9_fillsOf_133 : decode cX9_fillsOf 133 = .ok (.iload_n 1, 1) := by decide +kernel
theorem dX9_fillsOf_134 : decode cX9_fillsOf 134 = .ok (.iload_n 2, 1) := by decide +kernel
theorem dX9_fillsOf_135 : decode cX9_fillsOf 135 = .ok (.invokevirtual 159, 3) := by decide +kernel
theorem dX9_fillsOf_138 : decode cX9_fillsOf 138 = .ok (.istore 5, 2) := by decide +kernel
theorem dX9_fillsOf_140 : decode cX9_fillsOf 140 = .ok (.goto 3, 3) := by decide +kernel
theorem dX9_fillsOf_143 : decode cX9_fillsOf 143 = .ok (.iload 5, 2) := by decide +kernel
theorem dX9_fillsOf_145 : decode cX9_fillsOf 145 = .ok (.iconst 0, 1) := by decide +kernel
theorem dX9_fillsOf_146 : decode cX9_fillsOf 146 = .ok (.bipush 99, 2) := by decide +kernel
theorem dX9_fillsOf_148 : decode cX9_fillsOf 148 = .ok (.invokestatic 162, 3) := by decide +kernel
theorem dX9_fillsOf_151 : decode cX9_fillsOf 151 = .ok (.ireturn, 1) := by decide +kernel
theorem dX9_priceTold_0 : decode cX9_priceTold 0 = .ok (.aload_n 0, 1) := by decide +kernel
theorem dX9_priceTold_1 : decode cX9_priceTold 1 = .ok (.iconst 1, 1) := by decide +kernel
theorem dX9_priceTold_2 : decode cX9_priceTold 2 = .ok (.invokevirtual 149, 3) := by decide +kernel
theorem dX9_priceTold_5 : decode cX9_priceTold 5 = .ok (.ifCond .ne 15, 3) := by decide +kernel
theorem dX9_priceTold_8 : decode cX9_priceTold 8 = .ok (.iconst 2, 1) := by decide +kernel
theorem dX9_priceTold_9 : decode cX9_priceTold 9 = .ok (.aload_n 0, 1) := by decide +kernel
theorem dX9_priceTold_10 : decode cX9_priceTold 10 = .ok (.getfield 7, 3) := by decide +kernel
theorem dX9_priceTold_13 : decode cX9_priceTold 13 = .ok (.bipush 10, 2) := by decide +kernel
theorem dX9_priceTold_15 : decode cX9_priceTold 15 = .ok (.iload_n 2, 1) := by decide +kernel
theorem dX9_priceTold_16 : decode cX9_priceTold 16 = .ok (.iadd, 1) := by decide +kernel
theorem dX9_priceTold_17 : decode cX9_priceTold 17 = .ok (.iaload, 1) := by decide +kernel
theorem dX9_priceTold_18 : decode cX9_priceTold 18 = .ok (.imul, 1) := by decide +kernel
theorem dX9_priceTold_19 : decode cX9_priceTold 19 = .ok (.ireturn, 1) := by decide +kernel
theorem dX9_priceTold_20 : decode cX9_priceTold 20 = .ok (.aload_n 0, 1) := by decide +kernel
theorem dX9_priceTold_21 : decode cX9_priceTold 21 = .ok (.getfield 25, 3) := by decide +kernel
theorem dX9_priceTold_24 : decode cX9_priceTold 24 = .ok (.bipush 99, 2) := by decide +kernel
theorem dX9_priceTold_26 : decode cX9_priceTold 26 = .ok (.aload_n 0, 1) := by decide +kernel
theorem dX9_priceTold_27 : decode cX9_priceTold 27 = .ok (.getfield 7, 3) := by decide +kernel
theorem dX9_priceTold_30 : decode cX9_priceTold 30 = .ok (.bipush 10, 2) := by decide +kernel
theorem dX9_priceTold_32 : decode cX9_priceTold 32 = .ok (.iload_n 2, 1) := by decide +kernel
theorem dX9_priceTold_33 : decode cX9_priceTold 33 = .ok (.iadd, 1) := by decide +kernel
theorem dX9_priceTold_34 : decode cX9_priceTold 34 = .ok (.iaload, 1) := by decide +kernel
theorem dX9_priceTold_35 : decode cX9_priceTold 35 = .ok (.iastore, 1) := by decide +kernel
theorem dX9_priceTold_36 : decode cX9_priceTold 36 = .ok (.aload_n 0, 1) := by decide +kernel
theorem dX9_priceTold_37 : decode cX9_priceTold 37 = .ok (.getfield 25, 3) := by decide +kernel
theorem dX9_priceTold_40 : decode cX9_priceTold 40 = .ok (.bipush 115, 2) := by decide +kernel
theorem dX9_priceTold_42 : decode cX9_priceTold 42 = .ok (.aload_n 0, 1) := by decide +kernel
theorem dX9_priceTold_43 : decode cX9_priceTold 43 = .ok (.iload_n 1, 1) := by decide +kernel
theorem dX9_priceTold_44 : decode cX9_priceTold 44 = .ok (.bipush 9, 2) := by decide +kernel
theorem dX9_priceTold_46 : decode cX9_priceTold 46 = .ok (.iload_n 2, 1) := by decide +kernel
theorem dX9_priceTold_47 : decode cX9_priceTold 47 = .ok (.iadd, 1) := by decide +kernel
theorem dX9_priceTold_48 : decode cX9_priceTold 48 = .ok (.invokevirtual 51, 3) := by decide +kernel
theorem dX9_priceTold_51 : decode cX9_priceTold 51 = .ok (.iastore, 1) := by decide +kernel
theorem dX9_priceTold_52 : decode cX9_priceTold 52 = .ok (.aload_n 0, 1) := by decide +kernel
theorem dX9_priceTold_53 : decode cX9_priceTold 53 = .ok (.getfield 25, 3) := by decide +kernel
theorem dX9_priceTold_56 : decode cX9_priceTold 56 = .ok (.bipush 100, 2) := by decide +kernel
theorem dX9_priceTold_58 : decode cX9_priceTold 58 = .ok (.aload_n 0, 1) := by decide +kernel
theorem dX9_priceTold_59 : decode cX9_priceTold 59 = .ok (.getfield 7, 3) := by decide +kernel
theorem dX9_priceTold_62 : decode cX9_priceTold 62 = .ok (.iconst 2, 1) := by decide +kernel
theorem dX9_priceTold_63 : decode cX9_priceTold 63 = .ok (.iaload, 1) := by decide +kernel
theorem dX9_priceTold_64 : decode cX9_priceTold 64 = .ok (.iastore, 1) := by decide +kernel
theorem dX9_priceTold_65 : decode cX9_priceTold 65 = .ok (.aload_n 0, 1) := by decide +kernel
theorem dX9_priceTold_66 : decode cX9_priceTold 66 = .ok (.getfield 25, 3) := by decide +kernel
theorem dX9_priceTold_69 : decode cX9_priceTold 69 = .ok (.bipush 109, 2) := by decide +kernel
theorem dX9_priceTold_71 : decode cX9_priceTold 71 = .ok (.aload_n 0, 1) := by decide +kernel
theorem dX9_priceTold_72 : decode cX9_priceTold 72 = .ok (.iload_n 1, 1) := by decide +kernel
theorem dX9_priceTold_73 : decode cX9_priceTold 73 = .ok (.iconst 1, 1) := by decide +kernel
theorem dX9_priceTold_74 : decode cX9_priceTold 74 = .ok (.invokevirtual 51, 3) := by decide +kernel
theorem dX9_priceTold_77 : decode cX9_priceTold 77 = .ok (.iastore, 1) := by decide +kernel
theorem dX9_priceTold_78 : decode cX9_priceTold 78 = .ok (.aload_n 0, 1) := by decide +kernel
theorem dX9_priceTold_79 : decode cX9_priceTold 79 = .ok (.iconst 1, 1) := by decide +kernel
theorem dX9_priceTold_80 : decode cX9_priceTold 80 = .ok (.invokevirtual 156, 3) := by decide +kernel
theorem dX9_priceTold_83 : decode cX9_priceTold 83 = .ok (.ireturn, 1) := by decide +kernel
theorem dX9_priceOf_0 : decode cX9_priceOf 0 = .ok (.aload_n 0, 1) := by decide +kernel
theorem dX9_priceOf_1 : decode cX9_priceOf 1 = .ok (.getfield 7, 3) := by decide +kernel
theorem dX9_priceOf_4 : decode cX9_priceOf 4 = .ok (.bipush 10, 2) := by decide +kernel
theorem dX9_priceOf_6 : decode cX9_priceOf 6 = .ok (.iload_n 2, 1) := by decide +kernel
theorem dX9_priceOf_7 : decode cX9_priceOf 7 = .ok (.iadd, 1) := by decide +kernel
theorem dX9_priceOf_8 : decode cX9_priceOf 8 = .ok (.iaload, 1) := by decide +kernel
theorem dX9_priceOf_9 : decode cX9_priceOf 9 = .ok (.istore_n 3, 1) := by decide +kernel
theorem dX9_priceOf_10 : decode cX9_priceOf 10 = .ok (.iconst 2, 1) := by decide +kernel
theorem dX9_priceOf_11 : decode cX9_priceOf 11 = .ok (.iload_n 3, 1) := by decide +kernel
theorem dX9_priceOf_12 : decode cX9_priceOf 12 = .ok (.imul, 1) := by decide +kernel
theorem dX9_priceOf_13 : decode cX9_priceOf 13 = .ok (.istore 4, 2) := by decide +kernel
theorem dX9_priceOf_15 : decode cX9_priceOf 15 = .ok (.aload_n 0, 1) := by decide +kernel
theorem dX9_priceOf_16 : decode cX9_priceOf 16 = .ok (.iload_n 1, 1) := by decide +kernel
theorem dX9_priceOf_17 : decode cX9_priceOf 17 = .ok (.iconst 0, 1) := by decide +kernel
theorem dX9_priceOf_18 : decode cX9_priceOf 18 = .ok (.invokevirtual 51, 3) := by decide +kernel
theorem dX9_priceOf_21 : decode cX9_priceOf 21 = .ok (.tableswitch 69 2 6 #[35, 50, 50, 35, 58], 35) := by decide +kernel
theorem dX9_priceOf_56 : decode cX9_priceOf 56 = .ok (.iconst 2, 1) := by decide +kernel
theorem dX9_priceOf_57 : decode cX9_priceOf 57 = .ok (.iload_n 3, 1) := by decide +kernel
theorem dX9_priceOf_58 : decode cX9_priceOf 58 = .ok (.imul, 1) := by decide +kernel
theorem dX9_priceOf_59 : decode cX9_priceOf 59 = .ok (.aload_n 0, 1) := by decide +kernel
theorem dX9_priceOf_60 : decode cX9_priceOf 60 = .ok (.iload_n 1, 1) := by decide +kernel
theorem dX9_priceOf_61 : decode cX9_priceOf 61 = .ok (.iconst 1, 1) := by decide +kernel
theorem dX9_priceOf_62 : decode cX9_priceOf 62 = .ok (.invokevirtual 51, 3) := by decide +kernel
theorem dX9_priceOf_65 : decode cX9_priceOf 65 = .ok (.iadd, 1) := by decide +kernel
theorem dX9_priceOf_66 : decode cX9_priceOf 66 = .ok (.istore 4, 2) := by decide +kernel
theorem dX9_priceOf_68 : decode cX9_priceOf 68 = .ok (.goto 22, 3) := by decide +kernel
theorem dX9_priceOf_71 : decode cX9_priceOf 71 = .ok (.iconst 3, 1) := by decide +kernel
theorem dX9_priceOf_72 : decode cX9_priceOf 72 = .ok (.iload_n 3, 1) := by decide +kernel
theorem dX9_priceOf_73 : decode cX9_priceOf 73 = .ok (.imul, 1) := by decide +kernel
theorem dX9_priceOf_74 : decode cX9_priceOf 74 = .ok (.istore 4, 2) := by decide +kernel
theorem dX9_priceOf_76 : decode cX9_priceOf 76 = .ok (.goto 14, 3) := by decide +kernel
theorem dX9_priceOf_79 : decode cX9_priceOf 79 = .ok (.aload_n 0, 1) := by decide +kernel
theorem dX9_priceOf_80 : decode cX9_priceOf 80 = .ok (.iload_n 1, 1) := by decide +kernel
theorem dX9_priceOf_81 : decode cX9_priceOf 81 = .ok (.iload_n 2, 1) := by decide +kernel
theorem dX9_priceOf_82 : decode cX9_priceOf 82 = .ok (.invokevirtual 165, 3) := by decide +kernel
theorem dX9_priceOf_85 : decode cX9_priceOf 85 = .ok (.istore 4, 2) := by decide +kernel
theorem dX9_priceOf_87 : decode cX9_priceOf 87 = .ok (.goto 3, 3) := by decide +kernel
theorem dX9_priceOf_90 : decode cX9_priceOf 90 = .ok (.iload 4, 2) := by decide +kernel
theorem dX9_priceOf_92 : decode cX9_priceOf 92 = .ok (.iconst 0, 1) := by decide +kernel
theorem dX9_priceOf_93 : decode cX9_priceOf 93 = .ok (.sipush 999, 3) := by decide +kernel
theorem dX9_priceOf_96 : decode cX9_priceOf 96 = .ok (.invokestatic 162, 3) := by decide +kernel
theorem dX9_priceOf_99 : decode cX9_priceOf 99 = .ok (.ireturn, 1) := by decide +kernel
theorem dX9_price_0 : decode cX9_price 0 = .ok (.aload_n 0, 1) := by decide +kernel
theorem dX9_price_1 : decode cX9_price 1 = .ok (.iload_n 1, 1) := by decide +kernel
theorem dX9_price_2 : decode cX9_price 2 = .ok (.invokevirtual 80, 3) := by decide +kernel
theorem dX9_price_5 : decode cX9_price 5 = .ok (.ifCond .eq 19, 3) := by decide +kernel
theorem dX9_price_8 : decode cX9_price 8 = .ok (.iload_n 2, 1) := by decide +kernel
theorem dX9_price_9 : decode cX9_price 9 = .ok (.invokestatic 66, 3) := by decide +kernel
theorem dX9_price_12 : decode cX9_price 12 = .ok (.ifCond .eq 12, 3) := by decide +kernel
theorem dX9_price_15 : decode cX9_price 15 = .ok (.aload_n 0, 1) := by decide +kernel
theorem dX9_price_16 : decode cX9_price 16 = .ok (.iload_n 1, 1) := by decide +kernel
theorem dX9_price_17 : decode cX9_price 17 = .ok (.iload_n 2, 1) := by decide +kernel
theorem dX9_price_18 : decode cX9_price 18 = .ok (.invokevirtual 168, 3) := by decide +kernel
theorem dX9_price_21 : decode cX9_price 21 = .ok (.goto 8, 3) := by decide +kernel
theorem dX9_price_24 : decode cX9_price 24 = .ok (.aload_n 0, 1) := by decide +kernel
theorem dX9_price_25 : decode cX9_price 25 = .ok (.iconst 1, 1) := by decide +kernel
theorem dX9_price_26 : decode cX9_price 26 = .ok (.invokevirtual 70, 3) := by decide +kernel
theorem dX9_price_29 : decode cX9_price 29 = .ok (.ireturn, 1) := by decide +kernel
theorem dX9_fills_0 : decode cX9_fills 0 = .ok (.aload_n 0, 1) := by decide +kernel
theorem dX9_fills_1 : decode cX9_fills 1 = .ok (.iload_n 1, 1) := by decide +kernel
theorem dX9_fills_2 : decode cX9_fills 2 = .ok (.invokevirtual 80, 3) := by decide +kernel
theorem dX9_fills_5 : decode cX9_fills 5 = .ok (.ifCond .eq 19, 3) := by decide +kernel
theorem dX9_fills_8 : decode cX9_fills 8 = .ok (.iload_n 2, 1) := by decide +kernel
theorem dX9_fills_9 : decode cX9_fills 9 = .ok (.invokestatic 66, 3) := by decide +kernel
theorem dX9_fills_12 : decode cX9_fills 12 = .ok (.ifCond .eq 12, 3) := by decide +kernel
theorem dX9_fills_15 : decode cX9_fills 15 = .ok (.aload_n 0, 1) := by decide +kernel
theorem dX9_fills_16 : decode cX9_fills 16 = .ok (.iload_n 1, 1) := by decide +kernel
theorem dX9_fills_17 : decode cX9_fills 17 = .ok (.iload_n 2, 1) := by decide +kernel
theorem dX9_fills_18 : decode cX9_fills 18 = .ok (.invokevirtual 171, 3) := by decide +kernel
theorem dX9_fills_21 : decode cX9_fills 21 = .ok (.goto 8, 3) := by decide +kernel
theorem dX9_fills_24 : decode cX9_fills 24 = .ok (.aload_n 0, 1) := by decide +kernel
theorem dX9_fills_25 : decode cX9_fills 25 = .ok (.iconst 1, 1) := by decide +kernel
theorem dX9_fills_26 : decode cX9_fills 26 = .ok (.invokevirtual 70, 3) := by decide +kernel
theorem dX9_fills_29 : decode cX9_fills 29 = .ok (.ireturn, 1) := by decide +kernel
theorem dX9_gets_0 : decode cX9_gets 0 = .ok (.aload_n 0, 1) := by decide +kernel
theorem dX9_gets_1 : decode cX9_gets 1 = .ok (.iload_n 1, 1) := by decide +kernel
theorem dX9_gets_2 : decode cX9_gets 2 = .ok (.iconst 2, 1) := by decide +kernel
theorem dX9_gets_3 : decode cX9_gets 3 = .ok (.aload_n 0, 1) := by decide +kernel
theorem dX9_gets_4 : decode cX9_gets 4 = .ok (.iload_n 1, 1) := by decide +kernel
theorem dX9_gets_5 : decode cX9_gets 5 = .ok (.iconst 2, 1) := by decide +kernel
theorem dX9_gets_6 : decode cX9_gets 6 = .ok (.invokevirtual 51, 3) := by decide +kernel
theorem dX9_gets_9 : decode cX9_gets 9 = .ok (.iload_n 2, 1) := by decide +kernel
theorem dX9_gets_10 : decode cX9_gets 10 = .ok (.iadd, 1) := by decide +kernel
theorem dX9_gets_11 : decode cX9_gets 11 = .ok (.ldc 174, 2) := by decide +kernel
theorem dX9_gets_13 : decode cX9_gets 13 = .ok (.ldc 175, 2) := by decide +kernel
theorem dX9_gets_15 : decode cX9_gets 15 = .ok (.invokestatic 162, 3) := by decide +kernel
theorem dX9_gets_18 : decode cX9_gets 18 = .ok (.invokevirtual 73, 3) := by decide +kernel
theorem dX9_gets_21 : decode cX9_gets 21 = .ok (.return_, 1) := by decide +kernel
theorem dX9_hasOther_0 : decode cX9_hasOther 0 = .ok (.aload_n 0, 1) := by decide +kernel
theorem dX9_hasOther_1 : decode cX9_hasOther 1 = .ok (.iload_n 1, 1) := by decide +kernel
theorem dX9_hasOther_2 : decode cX9_hasOther 2 = .ok (.invokevirtual 55, 3) := by decide +kernel
theorem dX9_hasOther_5 : decode cX9_hasOther 5 = .ok (.iconst (-1), 1) := by decide +kernel
theorem dX9_hasOther_6 : decode cX9_hasOther 6 = .ok (.if_icmp .eq 16, 3) := by decide +kernel
theorem dX9_hasOther_9 : decode cX9_hasOther 9 = .ok (.aload_n 0, 1) := by decide +kernel
theorem dX9_hasOther_10 : decode cX9_hasOther 10 = .ok (.iload_n 1, 1) := by decide +kernel
theorem dX9_hasOther_11 : decode cX9_hasOther 11 = .ok (.invokevirtual 55, 3) := by decide +kernel
theorem dX9_hasOther_14 : decode cX9_hasOther 14 = .ok (.iload_n 1, 1) := by decide +kernel
theorem dX9_hasOther_15 : decode cX9_hasOther 15 = .ok (.if_icmp .eq 7, 3) := by decide +kernel
theorem dX9_hasOther_18 : decode cX9_hasOther 18 = .ok (.iconst 1, 1) := by decide +kernel
theorem dX9_hasOther_19 : decode cX9_hasOther 19 = .ok (.goto 4, 3) := by decide +kernel
theorem dX9_hasOther_22 : decode cX9_hasOther 22 = .ok (.iconst 0, 1) := by decide +kernel
theorem dX9_hasOther_23 : decode cX9_hasOther 23 = .ok (.ireturn, 1) := by decide +kernel
theorem dX9_buysOut_0 : decode cX9_buysOut 0 = .ok (.aload_n 0, 1) := by decide +kernel
theorem dX9_buysOut_1 : decode cX9_buysOut 1 = .ok (.iload_n 1, 1) := by decide +kernel
theorem dX9_buysOut_2 : decode cX9_buysOut 2 = .ok (.invokevirtual 55, 3) := by decide +kernel
theorem dX9_buysOut_5 : decode cX9_buysOut 5 = .ok (.istore_n 3, 1) := by decide +kernel
theorem dX9_buysOut_6 : decode cX9_buysOut 6 = .ok (.aload_n 0, 1) := by decide +kernel
theorem dX9_buysOut_7 : decode cX9_buysOut 7 = .ok (.iload_n 3, 1) := by decide +kernel
theorem dX9_buysOut_8 : decode cX9_buysOut 8 = .ok (.bipush 9, 2) := by decide +kernel
theorem dX9_buysOut_10 : decode cX9_buysOut 10 = .ok (.iload_n 2, 1) := by decide +kernel
theorem dX9_buysOut_11 : decode cX9_buysOut 11 = .ok (.iadd, 1) := by decide +kernel
theorem dX9_buysOut_12 : decode cX9_buysOut 12 = .ok (.invokevirtual 51, 3) := by decide +kernel
theorem dX9_buysOut_15 : decode cX9_buysOut 15 = .ok (.istore 4, 2) := by decide +kernel
theorem dX9_buysOut_17 : decode cX9_buysOut 17 = .ok (.iload 4, 2) := by decide +kernel
theorem dX9_buysOut_19 : decode cX9_buysOut 19 = .ok (.aload_n 0, 1) := by decide +kernel
theorem dX9_buysOut_20 : decode cX9_buysOut 20 = .ok (.iload_n 3, 1) := by decide +kernel
theorem dX9_buysOut_21 : decode cX9_buysOut 21 = .ok (.iload_n 2, 1) := by decide +kernel
theorem dX9_buysOut_22 : decode cX9_buysOut 22 = .ok (.invokevirtual 168, 3) := by decide +kernel
theorem dX9_buysOut_25 : decode cX9_buysOut 25 = .ok (.imul, 1) := by decide +kernel
theorem dX9_buysOut_26 : decode cX9_buysOut 26 = .ok (.istore 5, 2) := by decide +kernel
theorem dX9_buysOut_28 : decode cX9_buysOut 28 = .ok (.aload_n 0, 1) := by decide +kernel
theorem dX9_buysOut_29 : decode cX9_buysOut 29 = .ok (.iload_n 1, 1) := by decide +kernel
theorem dX9_buysOut_30 : decode cX9_buysOut 30 = .ok (.iload 5, 2) := by decide +kernel
theorem dX9_buysOut_32 : decode cX9_buysOut 32 = .ok (.ineg, 1) := by decide +kernel
theorem dX9_buysOut_33 : decode cX9_buysOut 33 = .ok (.invokevirtual 176, 3) := by decide +kernel
theorem dX9_buysOut_36 : decode cX9_buysOut 36 = .ok (.aload_n 0, 1) := by decide +kernel
theorem dX9_buysOut_37 : decode cX9_buysOut 37 = .ok (.iload_n 3, 1) := by decide +kernel
theorem dX9_buysOut_38 : decode cX9_buysOut 38 = .ok (.iload 5, 2) := by decide +kernel
theorem dX9_buysOut_40 : decode cX9_buysOut 40 = .ok (.invokevirtual 176, 3) := by decide +kernel
theorem dX9_buysOut_43 : decode cX9_buysOut 43 = .ok (.aload_n 0, 1) := by decide +kernel
theorem dX9_buysOut_44 : decode cX9_buysOut 44 = .ok (.iload_n 3, 1) := by decide +kernel
theorem dX9_buysOut_45 : decode cX9_buysOut 45 = .ok (.bipush 9, 2) := by decide +kernel
theorem dX9_buysOut_47 : decode cX9_buysOut 47 = .ok (.iload_n 2, 1) := by decide +kernel
theorem dX9_buysOut_48 : decode cX9_buysOut 48 = .ok (.iadd, 1) := by decide +kernel
theorem dX9_buysOut_49 : decode cX9_buysOut 49 = .ok (.iconst 0, 1) := by decide +kernel
theorem dX9_buysOut_50 : decode cX9_buysOut 50 = .ok (.invokevirtual 73, 3) := by decide +kernel
theorem dX9_buysOut_53 : decode cX9_buysOut 53 = .ok (.aload_n 0, 1) := by decide +kernel
theorem dX9_buysOut_54 : decode cX9_buysOut 54 = .ok (.iload_n 1, 1) := by decide +kernel
theorem dX9_buysOut_55 : decode cX9_buysOut 55 = .ok (.bipush 9, 2) := by decide +kernel
theorem dX9_buysOut_57 : decode cX9_buysOut 57 = .ok (.iload_n 2, 1) := by decide +kernel
theorem dX9_buysOut_58 : decode cX9_buysOut 58 = .ok (.iadd, 1) := by decide +kernel
theorem dX9_buysOut_59 : decode cX9_buysOut 59 = .ok (.aload_n 0, 1) := by decide +kernel
theorem dX9_buysOut_60 : decode cX9_buysOut 60 = .ok (.iload_n 1, 1) := by decide +kernel
theorem dX9_buysOut_61 : decode cX9_buysOut 61 = .ok (.bipush 9, 2) := by decide +kernel
theorem dX9_buysOut_63 : decode cX9_buysOut 63 = .ok (.iload_n 2, 1) := by decide +kernel
theorem dX9_buysOut_64 : decode cX9_buysOut 64 = .ok (.iadd, 1) := by decide +kernel
theorem dX9_buysOut_65 : decode cX9_buysOut 65 = .ok (.invokevirtual 51, 3) := by decide +kernel
theorem dX9_buysOut_68 : decode cX9_buysOut 68 = .ok (.iload 4, 2) := by decide +kernel
theorem dX9_buysOut_70 : decode cX9_buysOut 70 = .ok (.iadd, 1) := by decide +kernel
theorem dX9_buysOut_71 : decode cX9_buysOut 71 = .ok (.iconst 0, 1) := by decide +kernel
theorem dX9_buysOut_72 : decode cX9_buysOut 72 = .ok (.bipush 99, 2) := by decide +kernel
theorem dX9_buysOut_74 : decode cX9_buysOut 74 = .ok (.invokestatic 162, 3) := by decide +kernel
theorem dX9_buysOut_77 : decode cX9_buysOut 77 = .ok (.invokevirtual 73, 3) := by decide +kernel
theorem dX9_buysOut_80 : decode cX9_buysOut 80 = .ok (.return_, 1) := by decide +kernel
theorem dX9_buys_0 : decode cX9_buys 0 = .ok (.aload_n 0, 1) := by decide +kernel
theorem dX9_buys_1 : decode cX9_buys 1 = .ok (.iload_n 1, 1) := by decide +kernel
theorem dX9_buys_2 : decode cX9_buys 2 = .ok (.iconst 0, 1) := by decide +kernel
theorem dX9_buys_3 : decode cX9_buys 3 = .ok (.invokevirtual 51, 3) := by decide +kernel
theorem dX9_buys_6 : decode cX9_buys 6 = .ok (.iconst 5, 1) := by decide +kernel
theorem dX9_buys_7 : decode cX9_buys 7 = .ok (.if_icmp .ne 11, 3) := by decide +kernel
theorem dX9_buys_10 : decode cX9_buys 10 = .ok (.aload_n 0, 1) := by decide +kernel
theorem dX9_buys_11 : decode cX9_buys 11 = .ok (.iload_n 1, 1) := by decide +kernel
theorem dX9_buys_12 : decode cX9_buys 12 = .ok (.invokevirtual 179, 3) := by decide +kernel
theorem dX9_buys_15 : decode cX9_buys 15 = .ok (.ifCond .ne 4, 3) := by decide +kernel
theorem dX9_buys_18 : decode cX9_buys 18 = .ok (.return_, 1) := by decide +kernel
theorem dX9_buys_19 : decode cX9_buys 19 = .ok (.iconst 0, 1) := by decide +kernel
theorem dX9_buys_20 : decode cX9_buys 20 = .ok (.istore_n 2, 1) := by decide +kernel
theorem dX9_buys_21 : decode cX9_buys 21 = .ok (.iload_n 2, 1) := by decide +kernel
theorem dX9_buys_22 : decode cX9_buys 22 = .ok (.bipush 6, 2) := by decide +kernel
theorem dX9_buys_24 : decode cX9_buys 24 = .ok (.if_icmp .ge 56, 3) := by decide +kernel
theorem dX9_buys_27 : decode cX9_buys 27 = .ok (.aload_n 0, 1) := by decide +kernel
theorem dX9_buys_28 : decode cX9_buys 28 = .ok (.aload_n 0, 1) := by decide +kernel
theorem dX9_buys_29 : decode cX9_buys 29 = .ok (.iload_n 1, 1) := by decide +kernel
theorem dX9_buys_30 : decode cX9_buys 30 = .ok (.invokevirtual 55, 3) := by decide +kernel
theorem dX9_buys_33 : decode cX9_buys 33 = .ok (.bipush 9, 2) := by decide +kernel
theorem dX9_buys_35 : decode cX9_buys 35 = .ok (.iload_n 2, 1) := by decide +kernel
theorem dX9_buys_36 : decode cX9_buys 36 = .ok (.iadd, 1) := by decide +kernel
theorem dX9_buys_37 : decode cX9_buys 37 = .ok (.invokevirtual 51, 3) := by decide +kernel
theorem dX9_buys_40 : decode cX9_buys 40 = .ok (.istore_n 3, 1) := by decide +kernel
theorem dX9_buys_41 : decode cX9_buys 41 = .ok (.aload_n 0, 1) := by decide +kernel
theorem dX9_buys_42 : decode cX9_buys 42 = .ok (.iload_n 1, 1) := by decide +kernel
theorem dX9_buys_43 : decode cX9_buys 43 = .ok (.bipush 9, 2) := by decide +kernel
theorem dX9_buys_45 : decode cX9_buys 45 = .ok (.iload_n 2, 1) := by decide +kernel
theorem dX9_buys_46 : decode cX9_buys 46 = .ok (.iadd, 1) := by decide +kernel
theorem dX9_buys_47 : decode cX9_buys 47 = .ok (.invokevirtual 51, 3) := by decide +kernel
theorem dX9_buys_50 : decode cX9_buys 50 = .ok (.ifCond .le 24, 3) := by decide +kernel
theorem dX9_buys_53 : decode cX9_buys 53 = .ok (.iload_n 3, 1) := by decide +kernel
theorem dX9_buys_54 : decode cX9_buys 54 = .ok (.iconst 1, 1) := by decide +kernel
theorem dX9_buys_55 : decode cX9_buys 55 = .ok (.aload_n 0, 1) := by decide +kernel
theorem dX9_buys_56 : decode cX9_buys 56 = .ok (.iload_n 1, 1) := by decide +kernel
theorem dX9_buys_57 : decode cX9_buys 57 = .ok (.iconst 1, 1) := by decide +kernel
theorem dX9_buys_58 : decode cX9_buys 58 = .ok (.invokevirtual 51, 3) := by decide +kernel
theorem dX9_buys_61 : decode cX9_buys 61 = .ok (.invokestatic 47, 3) := by decide +kernel
theorem dX9_buys_64 : decode cX9_buys 64 = .ok (.ifCond .eq 10, 3) := by decide +kernel
theorem dX9_buys_67 : decode cX9_buys 67 = .ok (.aload_n 0, 1) := by decide +kernel
theorem dX9_buys_68 : decode cX9_buys 68 = .ok (.iload_n 1, 1) := by decide +kernel
theorem dX9_buys_69 : decode cX9_buys 69 = .ok (.iload_n 2, 1) := by decide +kernel
theorem dX9_buys_70 : decode cX9_buys 70 = .ok (.invokevirtual 182, 3) := by decide +kernel
theorem dX9_buys_73 : decode cX9_buys 73 = .ok (.return_, 1) := by decide +kernel
theorem dX9_buys_74 : decode cX9_buys 74 = .ok (.iinc 2 1, 3) := by decide +kernel
theorem dX9_buys_77 : decode cX9_buys 77 = .ok (.goto (-56), 3) := by decide +kernel
theorem dX9_buys_80 : decode cX9_buys 80 = .ok (.return_, 1) := by decide +kernel
theorem dX9_fillAll_0 : decode cX9_fillAll 0 = .ok (.iconst 0, 1) := by decide +kernel
theorem dX9_fillAll_1 : decode cX9_fillAll 1 = .ok (.istore_n 2, 1) := by decide +kernel
theorem dX9_fillAll_2 : decode cX9_fillAll 2 = .ok (.iload_n 2, 1) := by decide +kernel
theorem dX9_fillAll_3 : decode cX9_fillAll 3 = .ok (.bipush 6, 2) := by decide +kernel
theorem dX9_fillAll_5 : decode cX9_fillAll 5 = .ok (.if_icmp .ge 66, 3) := by decide +kernel
theorem dX9_fillAll_8 : decode cX9_fillAll 8 = .ok (.aload_n 0, 1) := by decide +kernel
theorem dX9_fillAll_9 : decode cX9_fillAll 9 = .ok (.iload_n 1, 1) := by decide +kernel
theorem dX9_fillAll_10 : decode cX9_fillAll 10 = .ok (.iload_n 2, 1) := by decide +kernel
theorem dX9_fillAll_11 : decode cX9_fillAll 11 = .ok (.invokevirtual 171, 3) := by decide +kernel
theorem dX9_fillAll_14 : decode cX9_fillAll 14 = .ok (.istore_n 3, 1) := by decide +kernel
theorem dX9_fillAll_15 : decode cX9_fillAll 15 = .ok (.iload_n 3, 1) := by decide +kernel
theorem dX9_fillAll_16 : decode cX9_fillAll 16 = .ok (.aload_n 0, 1) := by decide +kernel
theorem dX9_fillAll_17 : decode cX9_fillAll 17 = .ok (.iload_n 1, 1) := by decide +kernel
theorem dX9_fillAll_18 : decode cX9_fillAll 18 = .ok (.bipush 9, 2) := by decide +kernel
theorem dX9_fillAll_20 : decode cX9_fillAll 20 = .ok (.iload_n 2, 1) := by decide +kernel
theorem dX9_fillAll_21 : decode cX9_fillAll 21 = .ok (.iadd, 1) := by decide +kernel
theorem dX9_fillAll_22 : decode cX9_fillAll 22 = .ok (.invokevirtual 51, 3) := by decide +kernel
theorem dX9_fillAll_25 : decode cX9_fillAll 25 = .ok (.isub, 1) := by decide +kernel
theorem dX9_fillAll_26 : decode cX9_fillAll 26 = .ok (.istore 4, 2) := by decide +kernel
theorem dX9_fillAll_28 : decode cX9_fillAll 28 = .ok (.aload_n 0, 1) := by decide +kernel
theorem dX9_fillAll_29 : decode cX9_fillAll 29 = .ok (.iload_n 1, 1) := by decide +kernel
theorem dX9_fillAll_30 : decode cX9_fillAll 30 = .ok (.iload 4, 2) := by decide +kernel
theorem dX9_fillAll_32 : decode cX9_fillAll 32 = .ok (.ifCond .le 19, 3) := by decide +kernel
theorem dX9_fillAll_35 : decode cX9_fillAll 35 = .ok (.iload 4, 2) := by decide +kernel
theorem dX9_fillAll_37 : decode cX9_fillAll 37 = .ok (.ineg, 1) := by decide +kernel
theorem dX9_fillAll_38 : decode cX9_fillAll 38 = .ok (.aload_n 0, 1) := by decide +kernel
theorem dX9_fillAll_39 : decode cX9_fillAll 39 = .ok (.getfield 7, 3) := by decide +kernel
theorem dX9_fillAll_42 : decode cX9_fillAll 42 = .ok (.bipush 10, 2) := by decide +kernel
theorem dX9_fillAll_44 : decode cX9_fillAll 44 = .ok (.iload_n 2, 1) := by decide +kernel
theorem dX9_fillAll_45 : decode cX9_fillAll 45 = .ok (.iadd, 1) := by decide +kernel
theorem dX9_fillAll_46 : decode cX9_fillAll 46 = .ok (.iaload, 1) := by decide +kernel
theorem dX9_fillAll_47 : decode cX9_fillAll 47 = .ok (.imul, 1) := by decide +kernel
theorem dX9_fillAll_48 : decode cX9_fillAll 48 = .ok (.goto 4, 3) := by decide +kernel
theorem dX9_fillAll_51 : decode cX9_fillAll 51 = .ok (.iconst 0, 1) := by decide +kernel
theorem dX9_fillAll_52 : decode cX9_fillAll 52 = .ok (.invokevirtual 176, 3) := by decide +kernel
theorem dX9_fillAll_55 : decode cX9_fillAll 55 = .ok (.aload_n 0, 1) := by decide +kernel
theorem dX9_fillAll_56 : decode cX9_fillAll 56 = .ok (.iload_n 1, 1) := by decide +kernel
theorem dX9_fillAll_57 : decode cX9_fillAll 57 = .ok (.bipush 9, 2) := by decide +kernel
theorem dX9_fillAll_59 : decode cX9_fillAll 59 = .ok (.iload_n 2, 1) := by decide +kernel
theorem dX9_fillAll_60 : decode cX9_fillAll 60 = .ok (.iadd, 1) := by decide +kernel
theorem dX9_fillAll_61 : decode cX9_fillAll 61 = .ok (.iload_n 3, 1) := by decide +kernel
theorem dX9_fillAll_62 : decode cX9_fillAll 62 = .ok (.invokevirtual 73, 3) := by decide +kernel
theorem dX9_fillAll_65 : decode cX9_fillAll 65 = .ok (.iinc 2 1, 3) := by decide +kernel
theorem dX9_fillAll_68 : decode cX9_fillAll 68 = .ok (.goto (-66), 3) := by decide +kernel
theorem dX9_fillAll_71 : decode cX9_fillAll 71 = .ok (.return_, 1) := by decide +kernel
theorem dX9_dawns_0 : decode cX9_dawns 0 = .ok (.iconst 0, 1) := by decide +kernel
theorem dX9_dawns_1 : decode cX9_dawns 1 = .ok (.istore_n 1, 1) := by decide +kernel
theorem dX9_dawns_2 : decode cX9_dawns 2 = .ok (.iload_n 1, 1) := by decide +kernel
theorem dX9_dawns_3 : decode cX9_dawns 3 = .ok (.aload_n 0, 1) := by decide +kernel
theorem dX9_dawns_4 : decode cX9_dawns 4 = .ok (.getfield 7, 3) := by decide +kernel
theorem dX9_dawns_7 : decode cX9_dawns 7 = .ok (.iconst 0, 1) := by decide +kernel
theorem dX9_dawns_8 : decode cX9_dawns 8 = .ok (.iaload, 1) := by decide +kernel
theorem dX9_dawns_9 : decode cX9_dawns 9 = .ok (.if_icmp .ge 14, 3) := by decide +kernel
theorem dX9_dawns_12 : decode cX9_dawns 12 = .ok (.aload_n 0, 1) := by decide +kernel
theorem dX9_dawns_13 : decode cX9_dawns 13 = .ok (.iload_n 1, 1) := by decide +kernel
theorem dX9_dawns_14 : decode cX9_dawns 14 = .ok (.invokevirtual 185, 3) := by decide +kernel
theorem dX9_dawns_17 : decode cX9_dawns 17 = .ok (.iinc 1 1, 3) := by decide +kernel
theorem dX9_dawns_20 : decode cX9_dawns 20 = .ok (.goto (-18), 3) := by decide +kernel
theorem dX9_dawns_23 : decode cX9_dawns 23 = .ok (.iconst 0, 1) := by decide +kernel
theorem dX9_dawns_24 : decode cX9_dawns 24 = .ok (.istore_n 1, 1) := by decide +kernel
theorem dX9_dawns_25 : decode cX9_dawns 25 = .ok (.iload_n 1, 1) := by decide +kernel
theorem dX9_dawns_26 : decode cX9_dawns 26 = .ok (.aload_n 0, 1) := by decide +kernel
theorem dX9_dawns_27 : decode cX9_dawns 27 = .ok (.getfield 7, 3) := by decide +kernel
theorem dX9_dawns_30 : decode cX9_dawns 30 = .ok (.iconst 0, 1) := by decide +kernel
theorem dX9_dawns_31 : decode cX9_dawns 31 = .ok (.iaload, 1) := by decide +kernel
theorem dX9_dawns_32 : decode cX9_dawns 32 = .ok (.if_icmp .ge 14, 3) := by decide +kernel
theorem dX9_dawns_35 : decode cX9_dawns 35 = .ok (.aload_n 0, 1) := by decide +kernel
theorem dX9_dawns_36 : decode cX9_dawns 36 = .ok (.iload_n 1, 1) := by decide +kernel
theorem dX9_dawns_37 : decode cX9_dawns 37 = .ok (.invokevirtual 189, 3) := by decide +kernel
theorem dX9_dawns_40 : decode cX9_dawns 40 = .ok (.iinc 1 1, 3) := by decide +kernel
theorem dX9_dawns_43 : decode cX9_dawns 43 = .ok (.goto (-18), 3) := by decide +kernel
theorem dX9_dawns_46 : decode cX9_dawns 46 = .ok (.iconst 0, 1) := by decide +kernel
theorem dX9_dawns_47 : decode cX9_dawns 47 = .ok (.istore_n 1, 1) := by decide +kernel
theorem dX9_dawns_48 : decode cX9_dawns 48 = .ok (.iload_n 1, 1) := by decide +kernel
theorem dX9_dawns_49 : decode cX9_dawns 49 = .ok (.aload_n 0, 1) := by decide +kernel
theorem dX9_dawns_50 : decode cX9_dawns 50 = .ok (.getfield 7, 3) := by decide +kernel
theorem dX9_dawns_53 : decode cX9_dawns 53 = .ok (.iconst 0, 1) := by decide +kernel
theorem dX9_dawns_54 : decode cX9_dawns 54 = .ok (.iaload, 1) := by decide +kernel
theorem dX9_dawns_55 : decode cX9_dawns 55 = .ok (.if_icmp .ge 41, 3) := by decide +kernel
theorem dX9_dawns_58 : decode cX9_dawns 58 = .ok (.iconst 0, 1) := by decide +kernel
theorem dX9_dawns_59 : decode cX9_dawns 59 = .ok (.istore_n 2, 1) := by decide +kernel
theorem dX9_dawns_60 : decode cX9_dawns 60 = .ok (.iload_n 2, 1) := by decide +kernel
theorem dX9_dawns_61 : decode cX9_dawns 61 = .ok (.bipush 6, 2) := by decide +kernel
theorem dX9_dawns_63 : decode cX9_dawns 63 = .ok (.if_icmp .ge 27, 3) := by decide +kernel
theorem dX9_dawns_66 : decode cX9_dawns 66 = .ok (.aload_n 0, 1) := by decide +kernel
theorem dX9_dawns_67 : decode cX9_dawns 67 = .ok (.iload_n 1, 1) := by decide +kernel
theorem dX9_dawns_68 : decode cX9_dawns 68 = .ok (.bipush 15, 2) := by decide +kernel
theorem dX9_dawns_70 : decode cX9_dawns 70 = .ok (.iload_n 2, 1) := by decide +kernel
theorem dX9_dawns_71 : decode cX9_dawns 71 = .ok (.iadd, 1) := by decide +kernel
theorem dX9_dawns_72 : decode cX9_dawns 72 = .ok (.aload_n 0, 1) := by decide +kernel
theorem dX9_dawns_73 : decode cX9_dawns 73 = .ok (.iload_n 1, 1) := by decide +kernel
theorem dX9_dawns_74 : decode cX9_dawns 74 = .ok (.bipush 9, 2) := by decide +kernel
theorem dX9_dawns_76 : decode cX9_dawns 76 = .ok (.iload_n 2, 1) := by decide +kernel
theorem dX9_dawns_77 : decode cX9_dawns 77 = .ok (.iadd, 1) := by decide +kernel
theorem dX9_dawns_78 : decode cX9_dawns 78 = .ok (.invokevirtual 51, 3) := by decide +kernel
theorem dX9_dawns_81 : decode cX9_dawns 81 = .ok (.invokevirtual 73, 3) := by decide +kernel
theorem dX9_dawns_84 : decode cX9_dawns 84 = .ok (.iinc 2 1, 3) := by decide +kernel
theorem dX9_dawns_87 : decode cX9_dawns 87 = .ok (.goto (-27), 3) := by decide +kernel
theorem dX9_dawns_90 : decode cX9_dawns 90 = .ok (.iinc 1 1, 3) := by decide +kernel
theorem dX9_dawns_93 : decode cX9_dawns 93 = .ok (.goto (-45), 3) := by decide +kernel
theorem dX9_dawns_96 : decode cX9_dawns 96 = .ok (.return_, 1) := by decide +kernel
theorem dX9_morning_0 : decode cX9_morning 0 = .ok (.aload_n 0, 1) := by decide +kernel
theorem dX9_morning_1 : decode cX9_morning 1 = .ok (.invokevirtual 192, 3) := by decide +kernel
theorem dX9_morning_4 : decode cX9_morning 4 = .ok (.iconst 0, 1) := by decide +kernel
theorem dX9_morning_5 : decode cX9_morning 5 = .ok (.istore_n 1, 1) := by decide +kernel
theorem dX9_morning_6 : decode cX9_morning 6 = .ok (.iconst 0, 1) := by decide +kernel
theorem dX9_morning_7 : decode cX9_morning 7 = .ok (.istore_n 2, 1) := by decide +kernel
theorem dX9_morning_8 : decode cX9_morning 8 = .ok (.iload_n 2, 1) := by decide +kernel
theorem dX9_morning_9 : decode cX9_morning 9 = .ok (.aload_n 0, 1) := by decide +kernel
theorem dX9_morning_10 : decode cX9_morning 10 = .ok (.getfield 7, 3) := by decide +kernel
theorem dX9_morning_13 : decode cX9_morning 13 = .ok (.iconst 0, 1) := by decide +kernel
theorem dX9_morning_14 : decode cX9_morning 14 = .ok (.iaload, 1) := by decide +kernel
theorem dX9_morning_15 : decode cX9_morning 15 = .ok (.if_icmp .ge 35, 3) := by decide +kernel
theorem dX9_morning_18 : decode cX9_morning 18 = .ok (.iconst 0, 1) := by decide +kernel
theorem dX9_morning_19 : decode cX9_morning 19 = .ok (.istore_n 3, 1) := by decide +kernel
theorem dX9_morning_20 : decode cX9_morning 20 = .ok (.iload_n 3, 1) := by decide +kernel
theorem dX9_morning_21 : decode cX9_morning 21 = .ok (.bipush 6, 2) := by decide +kernel
theorem dX9_morning_23 : decode cX9_morning 23 = .ok (.if_icmp .ge 21, 3) := by decide +kernel
theorem dX9_morning_26 : decode cX9_morning 26 = .ok (.iload_n 1, 1) := by decide +kernel
theorem dX9_morning_27 : decode cX9_morning 27 = .ok (.aload_n 0, 1) := by decide +kernel
theorem dX9_morning_28 : decode cX9_morning 28 = .ok (.iload_n 2, 1) := by decide +kernel
theorem dX9_morning_29 : decode cX9_morning 29 = .ok (.bipush 9, 2) := by decide +kernel
theorem dX9_morning_31 : decode cX9_morning 31 = .ok (.iload_n 3, 1) := by decide +kernel
theorem dX9_morning_32 : decode cX9_morning 32 = .ok (.iadd, 1) := by decide +kernel
theorem dX9_morning_33 : decode cX9_morning 33 = .ok (.invokevirtual 51, 3) := by decide +kernel
theorem dX9_morning_36 : decode cX9_morning 36 = .ok (.iadd, 1) := by decide +kernel
theorem dX9_morning_37 : decode cX9_morning 37 = .ok (.istore_n 1, 1) := by decide +kernel
theorem dX9_morning_38 : decode cX9_morning 38 = .ok (.iinc 3 1, 3) := by decide +kernel
theorem dX9_morning_41 : decode cX9_morning 41 = .ok (.goto (-21), 3) := by decide +kernel
theorem dX9_morning_44 : decode cX9_morning 44 = .ok (.iinc 2 1, 3) := by decide +kernel
theorem dX9_morning_47 : decode cX9_morning 47 = .ok (.goto (-39), 3) := by decide +kernel
theorem dX9_morning_50 : decode cX9_morning 50 = .ok (.iload_n 1, 1) := by decide +kernel
theorem dX9_morning_51 : decode cX9_morning 51 = .ok (.ireturn, 1) := by decide +kernel
theorem dX9_shopOn_0 : decode cX9_shopOn 0 = .ok (.aload_n 0, 1) := by decide +kernel
theorem dX9_shopOn_1 : decode cX9_shopOn 1 = .ok (.getfield 7, 3) := by decide +kernel
theorem dX9_shopOn_4 : decode cX9_shopOn 4 = .ok (.iconst 0, 1) := by decide +kernel
theorem dX9_shopOn_5 : decode cX9_shopOn 5 = .ok (.iaload, 1) := by decide +kernel
theorem dX9_shopOn_6 : decode cX9_shopOn 6 = .ok (.istore_n 3, 1) := by decide +kernel
theorem dX9_shopOn_7 : decode cX9_shopOn 7 = .ok (.iload_n 3, 1) := by decide +kernel
theorem dX9_shopOn_8 : decode cX9_shopOn 8 = .ok (.ifCond .eq 17, 3) := by decide +kernel
theorem dX9_shopOn_11 : decode cX9_shopOn 11 = .ok (.aload_n 0, 1) := by decide +kernel
theorem dX9_shopOn_12 : decode cX9_shopOn 12 = .ok (.getfield 7, 3) := by decide +kernel
theorem dX9_shopOn_15 : decode cX9_shopOn 15 = .ok (.iconst 4, 1) := by decide +kernel
theorem dX9_shopOn_16 : decode cX9_shopOn 16 = .ok (.iaload, 1) := by decide +kernel
theorem dX9_shopOn_17 : decode cX9_shopOn 17 = .ok (.ifCond .ne 10, 3) := by decide +kernel
theorem dX9_shopOn_20 : decode cX9_shopOn 20 = .ok (.iload_n 2, 1) := by decide +kernel
theorem dX9_shopOn_21 : decode cX9_shopOn 21 = .ok (.iload_n 3, 1) := by decide +kernel
theorem dX9_shopOn_22 : decode cX9_shopOn 22 = .ok (.if_icmp .lt 5, 3) := by decide +kernel
theorem dX9_shopOn_25 : decode cX9_shopOn 25 = .ok (.iconst (-1), 1) := by decide +kernel
theorem dX9_shopOn_26 : decode cX9_shopOn 26 = .ok (.ireturn, 1) := by decide +kernel
theorem dX9_shopOn_27 : decode cX9_shopOn 27 = .ok (.aload_n 0, 1) := by decide +kernel
theorem dX9_shopOn_28 : decode cX9_shopOn 28 = .ok (.iload_n 1, 1) := by decide +kernel
theorem dX9_shopOn_29 : decode cX9_shopOn 29 = .ok (.iconst 2, 1) := by decide +kernel
theorem dX9_shopOn_30 : decode cX9_shopOn 30 = .ok (.invokevirtual 98, 3) := by decide +kernel
theorem dX9_shopOn_33 : decode cX9_shopOn 33 = .ok (.ifCond .ne 9, 3) := by decide +kernel
theorem dX9_shopOn_36 : decode cX9_shopOn 36 = .ok (.iload_n 2, 1) := by decide +kernel
theorem dX9_shopOn_37 : decode cX9_shopOn 37 = .ok (.iload_n 3, 1) := by decide +kernel
theorem dX9_shopOn_38 : decode cX9_shopOn 38 = .ok (.irem, 1) := by decide +kernel
theorem dX9_shopOn_39 : decode cX9_shopOn 39 = .ok (.goto 10, 3) := by decide +kernel
theorem dX9_shopOn_42 : decode cX9_shopOn 42 = .ok (.iload_n 3, 1) := by decide +kernel
theorem dX9_shopOn_43 : decode cX9_shopOn 43 = .ok (.iconst 1, 1) := by decide +kernel
theorem dX9_shopOn_44 : decode cX9_shopOn 44 = .ok (.isub, 1) := by decide +kernel
theorem dX9_shopOn_45 : decode cX9_shopOn 45 = .ok (.iload_n 2, 1) := by decide +kernel
theorem dX9_shopOn_46 : decode cX9_shopOn 46 = .ok (.iload_n 3, 1) := by decide +kernel
theorem dX9_shopOn_47 : decode cX9_shopOn 47 = .ok (.irem, 1) := by decide +kernel
theorem dX9_shopOn_48 : decode cX9_shopOn 48 = .ok (.isub, 1) := by decide +kernel
theorem dX9_shopOn_49 : decode cX9_shopOn 49 = .ok (.ireturn, 1) := by decide +kernel
theorem dX9_visits_0 : decode cX9_visits 0 = .ok (.iconst 0, 1) := by decide +kernel
theorem dX9_visits_1 : decode cX9_visits 1 = .ok (.istore_n 2, 1) := by decide +kernel
theorem dX9_visits_2 : decode cX9_visits 2 = .ok (.aload_n 0, 1) := by decide +kernel
theorem dX9_visits_3 : decode cX9_visits 3 = .ok (.iload_n 1, 1) := by decide +kernel
theorem dX9_visits_4 : decode cX9_visits 4 = .ok (.iconst 3, 1) := by decide +kernel
theorem dX9_visits_5 : decode cX9_visits 5 = .ok (.invokevirtual 98, 3) := by decide +kernel
theorem dX9_visits_8 : decode cX9_visits 8 = .ok (.istore_n 3, 1) := by decide +kernel
theorem dX9_visits_9 : decode cX9_visits 9 = .ok (.iconst 0, 1) := by decide +kernel
theorem dX9_visits_10 : decode cX9_visits 10 = .ok (.istore 4, 2) := by decide +kernel
theorem dX9_visits_12 : decode cX9_visits 12 = .ok (.iload 4, 2) := by decide +kernel
theorem dX9_visits_14 : decode cX9_visits 14 = .ok (.aload_n 0, 1) := by decide +kernel
theorem dX9_visits_15 : decode cX9_visits 15 = .ok (.iload_n 1, 1) := by decide +kernel
theorem dX9_visits_16 : decode cX9_visits 16 = .ok (.iconst 1, 1) := by decide +kernel
theorem dX9_visits_17 : decode cX9_visits 17 = .ok (.invokevirtual 98, 3) := by decide +kernel
theorem dX9_visits_20 : decode cX9_visits 20 = .ok (.if_icmp .ge 158, 3) := by decide +kernel
theorem dX9_visits_23 : decode cX9_visits 23 = .ok (.aload_n 0, 1) := by decide +kernel
theorem dX9_visits_24 : decode cX9_visits 24 = .ok (.iload_n 1, 1) := by decide +kernel
theorem dX9_visits_25 : decode cX9_visits 25 = .ok (.iload 4, 2) := by decide +kernel
theorem dX9_visits_27 : decode cX9_visits 27 = .ok (.invokevirtual 195, 3) := by decide +kernel
theorem dX9_visits_30 : decode cX9_visits 30 = .ok (.iconst (-1), 1) := by decide +kernel
theorem dX9_visits_31 : decode cX9_visits 31 = .ok (.if_icmp .eq 147, 3) := by decide +kernel
theorem dX9_visits_34 : decode cX9_visits 34 = .ok (.aload_n 0, 1) := by decide +kernel
theorem dX9_visits_35 : decode cX9_visits 35 = .ok (.iload_n 1, 1) := by decide +kernel
theorem dX9_visits_36 : decode cX9_visits 36 = .ok (.iload 4, 2) := by decide +kernel
theorem dX9_visits_38 : decode cX9_visits 38 = .ok (.invokevirtual 195, 3) := by decide +kernel
theorem dX9_visits_41 : decode cX9_visits 41 = .ok (.istore 5, 2) := by decide +kernel
theorem dX9_visits_43 : decode cX9_visits 43 = .ok (.iconst 0, 1) := by decide +kernel
theorem dX9_visits_44 : decode cX9_visits 44 = .ok (.istore 6, 2) := by decide +kernel
theorem dX9_visits_46 : decode cX9_visits 46 = .ok (.iload 6, 2) := by decide +kernel
theorem dX9_visits_48 : decode cX9_visits 48 = .ok (.bipush 6, 2) := by decide +kernel
theorem dX9_visits_50 : decode cX9_visits 50 = .ok (.if_icmp .ge 122, 3) := by decide +kernel
theorem dX9_visits_53 : decode cX9_visits 53 = .ok (.aload_n 0, 1) := by decide +kernel
theorem dX9_visits_54 : decode cX9_visits 54 = .ok (.iload_n 1, 1) := by decide +kernel
theorem dX9_visits_55 : decode cX9_visits 55 = .ok (.iconst 0, 1) := by decide +kernel
theorem dX9_visits_56 : decode cX9_visits 56 = .ok (.invokevirtual 98, 3) := by decide +kernel
theorem dX9_visits_59 : decode cX9_visits 59 = .ok (.iload 6, 2) := by decide +kernel
theorem dX9_visits_61 : decode cX9_visits 61 = .ok (.ishr, 1) := by decide +kernel
theorem dX9_visits_62 : decode cX9_visits 62 = .ok (.iconst 1, 1) := by decide +kernel
theorem dX9_visits_63 : decode cX9_visits 63 = .ok (.iand, 1) := by decide +kernel
theorem dX9_visits_64 : decode cX9_visits 64 = .ok (.iconst 1, 1) := by decide +kernel
theorem dX9_visits_65 : decode cX9_visits 65 = .ok (.if_icmp .ne 16, 3) := by decide +kernel
theorem dX9_visits_68 : decode cX9_visits 68 = .ok (.iload_n 2, 1) := by decide +kernel
theorem dX9_visits_69 : decode cX9_visits 69 = .ok (.iload 6, 2) := by decide +kernel
theorem dX9_visits_71 : decode cX9_visits 71 = .ok (.ishr, 1) := by decide +kernel
theorem dX9_visits_72 : decode cX9_visits 72 = .ok (.iconst 1, 1) := by decide +kernel
theorem dX9_visits_73 : decode cX9_visits 73 = .ok (.iand, 1) := by decide +kernel
theorem dX9_visits_74 : decode cX9_visits 74 = .ok (.ifCond .ne 7, 3) := by decide +kernel
theorem dX9_visits_77 : decode cX9_visits 77 = .ok (.iconst 1, 1) := by decide +kernel
theorem dX9_visits_78 : decode cX9_visits 78 = .ok (.goto 4, 3) := by decide +kernel
theorem dX9_visits_81 : decode cX9_visits 81 = .ok (.iconst 0, 1) := by decide +kernel
theorem dX9_visits_82 : decode cX9_visits 82 = .ok (.istore 7, 2) := by decide +kernel
theorem dX9_visits_84 : decode cX9_visits 84 = .ok (.iload 7, 2) := by decide +kernel
theorem dX9_visits_86 : decode cX9_visits 86 = .ok (.ifCond .eq 80, 3) := by decide +kernel
theorem dX9_visits_89 : decode cX9_visits 89 = .ok (.aload_n 0, 1) := by decide +kernel
theorem dX9_visits_90 : decode cX9_visits 90 = .ok (.iload 5, 2) := by decide +kernel
theorem dX9_visits_92 : decode cX9_visits 92 = .ok (.iload 6, 2) := by decide +kernel
theorem dX9_visits_94 : decode cX9_visits 94 = .ok (.invokevirtual 62, 3) := by decide +kernel
theorem dX9_visits_97 : decode cX9_visits 97 = .ok (.ifCond .eq 69, 3) := by decide +kernel
theorem dX9_visits_100 : decode cX9_visits 100 = .ok (.aload_n 0, 1) := by decide +kernel
theorem dX9_visits_101 : decode cX9_visits 101 = .ok (.iload 5, 2) := by decide +kernel
theorem dX9_visits_103 : decode cX9_visits 103 = .ok (.iload 6, 2) := by decide +kernel
theorem dX9_visits_105 : decode cX9_visits 105 = .ok (.invokevirtual 168, 3) := by decide +kernel
theorem dX9_visits_108 : decode cX9_visits 108 = .ok (.iload_n 3, 1) := by decide +kernel
theorem dX9_visits_109 : decode cX9_visits 109 = .ok (.if_icmp .gt 57, 3) := by decide +kernel
theorem dX9_visits_112 : decode cX9_visits 112 = .ok (.aload_n 0, 1) := by decide +kernel
theorem dX9_visits_113 : decode cX9_visits 113 = .ok (.iload 5, 2) := by decide +kernel
theorem dX9_visits_115 : decode cX9_visits 115 = .ok (.iload 6, 2) := by decide +kernel
theorem dX9_visits_117 : decode cX9_visits 117 = .ok (.invokevirtual 168, 3) := by decide +kernel
theorem dX9_visits_120 : decode cX9_visits 120 = .ok (.istore 8, 2) := by decide +kernel
theorem dX9_visits_122 : decode cX9_visits 122 = .ok (.iload_n 3, 1) := by decide +kernel
theorem dX9_visits_123 : decode cX9_visits 123 = .ok (.iload 8, 2) := by decide +kernel
theorem dX9_visits_125 : decode cX9_visits 125 = .ok (.isub, 1) := by decide +kernel
theorem dX9_visits_126 : decode cX9_visits 126 = .ok (.istore_n 3, 1) := by decide +kernel
theorem dX9_visits_127 : decode cX9_visits 127 = .ok (.aload_n 0, 1) := by decide +kernel
theorem dX9_visits_128 : decode cX9_visits 128 = .ok (.iload 5, 2) := by decide +kernel
theorem dX9_visits_130 : decode cX9_visits 130 = .ok (.iload 8, 2) := by decide +kernel
theorem dX9_visits_132 : decode cX9_visits 132 = .ok (.invokevirtual 176, 3) := by decide +kernel
theorem dX9_visits_135 : decode cX9_visits 135 = .ok (.aload_n 0, 1) := by decide +kernel
theorem dX9_visits_136 : decode cX9_visits 136 = .ok (.iload 5, 2) := by decide +kernel
theorem dX9_visits_138 : decode cX9_visits 138 = .ok (.bipush 9, 2) := by decide +kernel
theorem dX9_visits_140 : decode cX9_visits 140 = .ok (.iload 6, 2) := by decide +kernel
theorem dX9_visits_142 : decode cX9_visits 142 = .ok (.iadd, 1) := by decide +kernel
theorem dX9_visits_143 : decode cX9_visits 143 = .ok (.aload_n 0, 1) := by decide +kernel
theorem dX9_visits_144 : decode cX9_visits 144 = .ok (.iload 5, 2) := by decide +kernel
theorem dX9_visits_146 : decode cX9_visits 146 = .ok (.bipush 9, 2) := by decide +kernel
theorem dX9_visits_148 : decode cX9_visits 148 = .ok (.iload 6, 2) := by decide +kernel
theorem dX9_visits_150 : decode cX9_visits 150 = .ok (.iadd, 1) := by decide +kernel
theorem dX9_visits_151 : decode cX9_visits 151 = .ok (.invokevirtual 51, 3) := by decide +kernel
theorem dX9_visits_154 : decode cX9_visits 154 = .ok (.iconst 1, 1) := by decide +kernel
theorem dX9_visits_155 : decode cX9_visits 155 = .ok (.isub, 1) := by decide +kernel
theorem dX9_visits_156 : decode cX9_visits 156 = .ok (.invokevirtual 73, 3) := by decide +kernel
theorem dX9_visits_159 : decode cX9_visits 159 = .ok (.iload_n 2, 1) := by decide +kernel
theorem dX9_visits_160 : decode cX9_visits 160 = .ok (.iconst 1, 1) := by decide +kernel
theorem dX9_visits_161 : decode cX9_visits 161 = .ok (.iload 6, 2) := by decide +kernel
theorem dX9_visits_163 : decode cX9_visits 163 = .ok (.ishl, 1) := by decide +kernel
theorem dX9_visits_164 : decode cX9_visits 164 = .ok (.ior, 1) := by decide +kernel
theorem dX9_visits_165 : decode cX9_visits 165 = .ok (.istore_n 2, 1) := by decide +kernel
theorem dX9_visits_166 : decode cX9_visits 166 = .ok (.iinc 6 1, 3) := by decide +kernel
theorem dX9_visits_169 : decode cX9_visits 169 = .ok (.goto (-123), 3) := by decide +kernel
theorem dX9_visits_172 : decode cX9_visits 172 = .ok (.iinc 4 1, 3) := by decide +kernel
theorem dX9_visits_175 : decode cX9_visits 175 = .ok (.goto (-163), 3) := by decide +kernel
theorem dX9_visits_178 : decode cX9_visits 178 = .ok (.iload_n 2, 1) := by decide +kernel
theorem dX9_visits_179 : decode cX9_visits 179 = .ok (.ireturn, 1) := by decide +kernel
theorem dX9_visit_0 : decode cX9_visit 0 = .ok (.aload_n 0, 1) := by decide +kernel
theorem dX9_visit_1 : decode cX9_visit 1 = .ok (.iload_n 1, 1) := by decide +kernel
theorem dX9_visit_2 : decode cX9_visit 2 = .ok (.invokevirtual 95, 3) := by decide +kernel
theorem dX9_visit_5 : decode cX9_visit 5 = .ok (.ifCond .eq 11, 3) := by decide +kernel
theorem dX9_visit_8 : decode cX9_visit 8 = .ok (.aload_n 0, 1) := by decide +kernel
theorem dX9_visit_9 : decode cX9_visit 9 = .ok (.iload_n 1, 1) := by decide +kernel
theorem dX9_visit_10 : decode cX9_visit 10 = .ok (.invokevirtual 198, 3) := by decide +kernel
theorem dX9_visit_13 : decode cX9_visit 13 = .ok (.goto 8, 3) := by decide +kernel
theorem dX9_visit_16 : decode cX9_visit 16 = .ok (.aload_n 0, 1) := by decide +kernel
theorem dX9_visit_17 : decode cX9_visit 17 = .ok (.iconst 1, 1) := by decide +kernel
theorem dX9_visit_18 : decode cX9_visit 18 = .ok (.invokevirtual 70, 3) := by decide +kernel
theorem dX9_visit_21 : decode cX9_visit 21 = .ok (.ireturn, 1) := by decide +kernel
theorem dX9_bitsOf_0 : decode cX9_bitsOf 0 = .ok (.iconst 0, 1) := by decide +kernel
theorem dX9_bitsOf_1 : decode cX9_bitsOf 1 = .ok (.istore_n 1, 1) := by decide +kernel
theorem dX9_bitsOf_2 : decode cX9_bitsOf 2 = .ok (.iload_n 0, 1) := by decide +kernel
theorem dX9_bitsOf_3 : decode cX9_bitsOf 3 = .ok (.istore_n 2, 1) := by decide +kernel
theorem dX9_bitsOf_4 : decode cX9_bitsOf 4 = .ok (.iload_n 2, 1) := by decide +kernel
theorem dX9_bitsOf_5 : decode cX9_bitsOf 5 = .ok (.ifCond .eq 15, 3) := by decide +kernel
theorem dX9_bitsOf_8 : decode cX9_bitsOf 8 = .ok (.iinc 1 1, 3) := by decide +kernel
theorem dX9_bitsOf_11 : decode cX9_bitsOf 11 = .ok (.iload_n 2, 1) := by decide +kernel
theorem dX9_bitsOf_12 : decode cX9_bitsOf 12 = .ok (.iload_n 2, 1) := by decide +kernel
theorem dX9_bitsOf_13 : decode cX9_bitsOf 13 = .ok (.iconst 1, 1) := by decide +kernel
theorem dX9_bitsOf_14 : decode cX9_bitsOf 14 = .ok (.isub, 1) := by decide +kernel
theorem dX9_bitsOf_15 : decode cX9_bitsOf 15 = .ok (.iand, 1) := by decide +kernel
theorem dX9_bitsOf_16 : decode cX9_bitsOf 16 = .ok (.istore_n 2, 1) := by decide +kernel
theorem dX9_bitsOf_17 : decode cX9_bitsOf 17 = .ok (.goto (-13), 3) := by decide +kernel
theorem dX9_bitsOf_20 : decode cX9_bitsOf 20 = .ok (.iload_n 1, 1) := by decide +kernel
theorem dX9_bitsOf_21 : decode cX9_bitsOf 21 = .ok (.ireturn, 1) := by decide +kernel
theorem dX9_draw_0 : decode cX9_draw 0 = .ok (.aload_n 0, 1) := by decide +kernel
theorem dX9_draw_1 : decode cX9_draw 1 = .ok (.getfield 7, 3) := by decide +kernel
theorem dX9_draw_4 : decode cX9_draw 4 = .ok (.bipush 8, 2) := by decide +kernel
theorem dX9_draw_6 : decode cX9_draw 6 = .ok (.aload_n 0, 1) := by decide +kernel
theorem dX9_draw_7 : decode cX9_draw 7 = .ok (.getfield 7, 3) := by decide +kernel
theorem dX9_draw_10 : decode cX9_draw 10 = .ok (.bipush 8, 2) := by decide +kernel
theorem dX9_draw_12 : decode cX9_draw 12 = .ok (.iaload, 1) := by decide +kernel
theorem dX9_draw_13 : decode cX9_draw 13 = .ok (.ldc 201, 2) := by decide +kernel
theorem dX9_draw_15 : decode cX9_draw 15 = .ok (.imul, 1) := by decide +kernel
theorem dX9_draw_16 : decode cX9_draw 16 = .ok (.sipush 12345, 3) := by decide +kernel
theorem dX9_draw_19 : decode cX9_draw 19 = .ok (.iadd, 1) := by decide +kernel
theorem dX9_draw_20 : decode cX9_draw 20 = .ok (.iastore, 1) := by decide +kernel
theorem dX9_draw_21 : decode cX9_draw 21 = .ok (.aload_n 0, 1) := by decide +kernel
theorem dX9_draw_22 : decode cX9_draw 22 = .ok (.getfield 7, 3) := by decide +kernel
theorem dX9_draw_25 : decode cX9_draw 25 = .ok (.bipush 8, 2) := by decide +kernel
theorem dX9_draw_27 : decode cX9_draw 27 = .ok (.iaload, 1) := by decide +kernel
theorem dX9_draw_28 : decode cX9_draw 28 = .ok (.bipush 8, 2) := by decide +kernel
theorem dX9_draw_30 : decode cX9_draw 30 = .ok (.iushr, 1) := by decide +kernel
theorem dX9_draw_31 : decode cX9_draw 31 = .ok (.ireturn, 1) := by decide +kernel
theorem dX9_day_0 : decode cX9_day 0 = .ok (.aload_n 0, 1) := by decide +kernel
theorem dX9_day_1 : decode cX9_day 1 = .ok (.invokevirtual 192, 3) := by decide +kernel
theorem dX9_day_4 : decode cX9_day 4 = .ok (.iconst 0, 1) := by decide +kernel
theorem dX9_day_5 : decode cX9_day 5 = .ok (.istore_n 2, 1) := by decide +kernel
theorem dX9_day_6 : decode cX9_day 6 = .ok (.iconst 0, 1) := by decide +kernel
theorem dX9_day_7 : decode cX9_day 7 = .ok (.istore_n 3, 1) := by decide +kernel
theorem dX9_day_8 : decode cX9_day 8 = .ok (.iload_n 3, 1) := by decide +kernel
theorem dX9_day_9 : decode cX9_day 9 = .ok (.aload_n 0, 1) := by decide +kernel
theorem dX9_day_10 : decode cX9_day 10 = .ok (.getfield 7, 3) := by decide +kernel
theorem dX9_day_13 : decode cX9_day 13 = .ok (.iconst 1, 1) := by decide +kernel
theorem dX9_day_14 : decode cX9_day 14 = .ok (.iaload, 1) := by decide +kernel
theorem dX9_day_15 : decode cX9_day 15 = .ok (.if_icmp .ge 49, 3) := by decide +kernel
theorem dX9_day_18 : decode cX9_day 18 = .ok (.iload_n 1, 1) := by decide +kernel
theorem dX9_day_19 : decode cX9_day 19 = .ok (.ifCond .eq 16, 3) := by decide +kernel
theorem dX9_day_22 : decode cX9_day 22 = .ok (.aload_n 0, 1) := by decide +kernel
theorem dX9_day_23 : decode cX9_day 23 = .ok (.invokevirtual 202, 3) := by decide +kernel
theorem dX9_day_26 : decode cX9_day 26 = .ok (.iconst 4, 1) := by decide +kernel
theorem dX9_day_27 : decode cX9_day 27 = .ok (.irem, 1) := by decide +kernel
theorem dX9_day_28 : decode cX9_day 28 = .ok (.ifCond .ne 7, 3) := by decide +kernel
theorem dX9_day_31 : decode cX9_day 31 = .ok (.iconst 1, 1) := by decide +kernel
theorem dX9_day_32 : decode cX9_day 32 = .ok (.goto 4, 3) := by decide +kernel
theorem dX9_day_35 : decode cX9_day 35 = .ok (.iconst 0, 1) := by decide +kernel
theorem dX9_day_36 : decode cX9_day 36 = .ok (.istore 4, 2) := by decide +kernel
theorem dX9_day_38 : decode cX9_day 38 = .ok (.iload_n 2, 1) := by decide +kernel
theorem dX9_day_39 : decode cX9_day 39 = .ok (.iload 4, 2) := by decide +kernel
theorem dX9_day_41 : decode cX9_day 41 = .ok (.ifCond .eq 7, 3) := by decide +kernel
theorem dX9_day_44 : decode cX9_day 44 = .ok (.iconst 0, 1) := by decide +kernel
theorem dX9_day_45 : decode cX9_day 45 = .ok (.goto 11, 3) := by decide +kernel
theorem dX9_day_48 : decode cX9_day 48 = .ok (.aload_n 0, 1) := by decide +kernel
theorem dX9_day_49 : decode cX9_day 49 = .ok (.iload_n 3, 1) := by decide +kernel
theorem dX9_day_50 : decode cX9_day 50 = .ok (.invokevirtual 198, 3) := by decide +kernel
theorem dX9_day_53 : decode cX9_day 53 = .ok (.invokestatic 205, 3) := by decide +kernel
theorem dX9_day_56 : decode cX9_day 56 = .ok (.iadd, 1) := by decide +kernel
theorem dX9_day_57 : decode cX9_day 57 = .ok (.istore_n 2, 1) := by decide +kernel
theorem dX9_day_58 : decode cX9_day 58 = .ok (.iinc 3 1, 3) := by decide +kernel
theorem dX9_day_61 : decode cX9_day 61 = .ok (.goto (-53), 3) := by decide +kernel
theorem dX9_day_64 : decode cX9_day 64 = .ok (.aload_n 0, 1) := by decide +kernel
theorem dX9_day_65 : decode cX9_day 65 = .ok (.getfield 7, 3) := by decide +kernel
theorem dX9_day_68 : decode cX9_day 68 = .ok (.iconst 3, 1) := by decide +kernel
theorem dX9_day_69 : decode cX9_day 69 = .ok (.iload_n 2, 1) := by decide +kernel
theorem dX9_day_70 : decode cX9_day 70 = .ok (.iastore, 1) := by decide +kernel
theorem dX9_day_71 : decode cX9_day 71 = .ok (.aload_n 0, 1) := by decide +kernel
theorem dX9_day_72 : decode cX9_day 72 = .ok (.getfield 7, 3) := by decide +kernel
theorem dX9_day_75 : decode cX9_day 75 = .ok (.iconst 2, 1) := by decide +kernel
theorem dX9_day_76 : decode cX9_day 76 = .ok (.dup2, 1) := by decide +kernel
theorem dX9_day_77 : decode cX9_day 77 = .ok (.iaload, 1) := by decide +kernel
theorem dX9_day_78 : decode cX9_day 78 = .ok (.iconst 1, 1) := by decide +kernel
theorem dX9_day_79 : decode cX9_day 79 = .ok (.iadd, 1) := by decide +kernel
theorem dX9_day_80 : decode cX9_day 80 = .ok (.iastore, 1) := by decide +kernel
theorem dX9_day_81 : decode cX9_day 81 = .ok (.return_, 1) := by decide +kernel
theorem dX9_go_0 : decode cX9_go 0 = .ok (.iconst 0, 1) := by decide +kernel
theorem dX9_go_1 : decode cX9_go 1 = .ok (.istore_n 2, 1) := by decide +kernel
theorem dX9_go_2 : decode cX9_go 2 = .ok (.iload_n 2, 1) := by decide +kernel
theorem dX9_go_3 : decode cX9_go 3 = .ok (.iload_n 1, 1) := by decide +kernel
theorem dX9_go_4 : decode cX9_go 4 = .ok (.if_icmp .ge 14, 3) := by decide +kernel
theorem dX9_go_7 : decode cX9_go 7 = .ok (.aload_n 0, 1) := by decide +kernel
theorem dX9_go_8 : decode cX9_go 8 = .ok (.iconst 0, 1) := by decide +kernel
theorem dX9_go_9 : decode cX9_go 9 = .ok (.invokevirtual 208, 3) := by decide +kernel
theorem dX9_go_12 : decode cX9_go 12 = .ok (.iinc 2 1, 3) := by decide +kernel
theorem dX9_go_15 : decode cX9_go 15 = .ok (.goto (-13), 3) := by decide +kernel
theorem dX9_go_18 : decode cX9_go 18 = .ok (.return_, 1) := by decide +kernel
theorem dX9_days_0 : decode cX9_days 0 = .ok (.iload_n 1, 1) := by decide +kernel
theorem dX9_days_1 : decode cX9_days 1 = .ok (.iconst 1, 1) := by decide +kernel
theorem dX9_days_2 : decode cX9_days 2 = .ok (.bipush 60, 2) := by decide +kernel
theorem dX9_days_4 : decode cX9_days 4 = .ok (.invokestatic 47, 3) := by decide +kernel
theorem dX9_days_7 : decode cX9_days 7 = .ok (.ifCond .ne 9, 3) := by decide +kernel
theorem dX9_days_10 : decode cX9_days 10 = .ok (.aload_n 0, 1) := by decide +kernel
theorem dX9_days_11 : decode cX9_days 11 = .ok (.iconst 1, 1) := by decide +kernel
theorem dX9_days_12 : decode cX9_days 12 = .ok (.invokevirtual 70, 3) := by decide +kernel
theorem dX9_days_15 : decode cX9_days 15 = .ok (.ireturn, 1) := by decide +kernel
theorem dX9_days_16 : decode cX9_days 16 = .ok (.aload_n 0, 1) := by decide +kernel
theorem dX9_days_17 : decode cX9_days 17 = .ok (.getfield 7, 3) := by decide +kernel
theorem dX9_days_20 : decode cX9_days 20 = .ok (.iconst 2, 1) := by decide +kernel
theorem dX9_days_21 : decode cX9_days 21 = .ok (.iaload, 1) := by decide +kernel
theorem dX9_days_22 : decode cX9_days 22 = .ok (.iload_n 1, 1) := by decide +kernel
theorem dX9_days_23 : decode cX9_days 23 = .ok (.iadd, 1) := by decide +kernel
theorem dX9_days_24 : decode cX9_days 24 = .ok (.sipush 9999, 3) := by decide +kernel
theorem dX9_days_27 : decode cX9_days 27 = .ok (.if_icmp .le 9, 3) := by decide +kernel
theorem dX9_days_30 : decode cX9_days 30 = .ok (.aload_n 0, 1) := by decide +kernel
theorem dX9_days_31 : decode cX9_days 31 = .ok (.iconst 3, 1) := by decide +kernel
theorem dX9_days_32 : decode cX9_days 32 = .ok (.invokevirtual 70, 3) := by decide +kernel
theorem dX9_days_35 : decode cX9_days 35 = .ok (.ireturn, 1) := by decide +kernel
theorem dX9_days_36 : decode cX9_days 36 = .ok (.aload_n 0, 1) := by decide +kernel
theorem dX9_days_37 : decode cX9_days 37 = .ok (.iload_n 1, 1) := by decide +kernel
theorem dX9_days_38 : decode cX9_days 38 = .ok (.invokevirtual 212, 3) := by decide +kernel
theorem dX9_days_41 : decode cX9_days 41 = .ok (.aload_n 0, 1) := by decide +kernel
theorem dX9_days_42 : decode cX9_days 42 = .ok (.getfield 7, 3) := by decide +kernel
theorem dX9_days_45 : decode cX9_days 45 = .ok (.iconst 3, 1) := by decide +kernel
theorem dX9_days_46 : decode cX9_days 46 = .ok (.iaload, 1) := by decide +kernel
theorem dX9_days_47 : decode cX9_days 47 = .ok (.ireturn, 1) := by decide +kernel
theorem dX9_loose_0 : decode cX9_loose 0 = .ok (.iload_n 1, 1) := by decide +kernel
theorem dX9_loose_1 : decode cX9_loose 1 = .ok (.iconst 1, 1) := by decide +kernel
theorem dX9_loose_2 : decode cX9_loose 2 = .ok (.bipush 60, 2) := by decide +kernel
theorem dX9_loose_4 : decode cX9_loose 4 = .ok (.invokestatic 47, 3) := by decide +kernel
theorem dX9_loose_7 : decode cX9_loose 7 = .ok (.ifCond .ne 9, 3) := by decide +kernel
theorem dX9_loose_10 : decode cX9_loose 10 = .ok (.aload_n 0, 1) := by decide +kernel
theorem dX9_loose_11 : decode cX9_loose 11 = .ok (.iconst 1, 1) := by decide +kernel
theorem dX9_loose_12 : decode cX9_loose 12 = .ok (.invokevirtual 70, 3) := by decide +kernel
theorem dX9_loose_15 : decode cX9_loose 15 = .ok (.ireturn, 1) := by decide +kernel
theorem dX9_loose_16 : decode cX9_loose 16 = .ok (.aload_n 0, 1) := by decide +kernel
theorem dX9_loose_17 : decode cX9_loose 17 = .ok (.getfield 7, 3) := by decide +kernel
theorem dX9_loose_20 : decode cX9_loose 20 = .ok (.iconst 2, 1) := by decide +kernel
theorem dX9_loose_21 : decode cX9_loose 21 = .ok (.iaload, 1) := by decide +kernel
theorem dX9_loose_22 : decode cX9_loose 22 = .ok (.iload_n 1, 1) := by decide +kernel
theorem dX9_loose_23 : decode cX9_loose 23 = .ok (.iadd, 1) := by decide +kernel
theorem dX9_loose_24 : decode cX9_loose 24 = .ok (.sipush 9999, 3) := by decide +kernel
theorem dX9_loose_27 : decode cX9_loose 27 = .ok (.if_icmp .le 9, 3) := by decide +kernel
theorem dX9_loose_30 : decode cX9_loose 30 = .ok (.aload_n 0, 1) := by decide +kernel
theorem dX9_loose_31 : decode cX9_loose 31 = .ok (.iconst 3, 1) := by decide +kernel
theorem dX9_loose_32 : decode cX9_loose 32 = .ok (.invokevirtual 70, 3) := by decide +kernel
theorem dX9_loose_35 : decode cX9_loose 35 = .ok (.ireturn, 1) := by decide +kernel
theorem dX9_loose_36 : decode cX9_loose 36 = .ok (.iconst 0, 1) := by decide +kernel
theorem dX9_loose_37 : decode cX9_loose 37 = .ok (.istore_n 2, 1) := by decide +kernel
theorem dX9_loose_38 : decode cX9_loose 38 = .ok (.iload_n 2, 1) := by decide +kernel
theorem dX9_loose_39 : decode cX9_loose 39 = .ok (.iload_n 1, 1) := by decide +kernel
theorem dX9_loose_40 : decode cX9_loose 40 = .ok (.if_icmp .ge 14, 3) := by decide +kernel
theorem dX9_loose_43 : decode cX9_loose 43 = .ok (.aload_n 0, 1) := by decide +kernel
theorem dX9_loose_44 : decode cX9_loose 44 = .ok (.iconst 1, 1) := by decide +kernel
theorem dX9_loose_45 : decode cX9_loose 45 = .ok (.invokevirtual 208, 3) := by decide +kernel
theorem dX9_loose_48 : decode cX9_loose 48 = .ok (.iinc 2 1, 3) := by decide +kernel
theorem dX9_loose_51 : decode cX9_loose 51 = .ok (.goto (-13), 3) := by decide +kernel
theorem dX9_loose_54 : decode cX9_loose 54 = .ok (.aload_n 0, 1) := by decide +kernel
theorem dX9_loose_55 : decode cX9_loose 55 = .ok (.getfield 7, 3) := by decide +kernel
theorem dX9_loose_58 : decode cX9_loose 58 = .ok (.iconst 3, 1) := by decide +kernel
theorem dX9_loose_59 : decode cX9_loose 59 = .ok (.iaload, 1) := by decide +kernel
theorem dX9_loose_60 : decode cX9_loose 60 = .ok (.ireturn, 1) := by decide +kernel
theorem dX9_seed_0 : decode cX9_seed 0 = .ok (.aload_n 0, 1) := by decide +kernel
theorem dX9_seed_1 : decode cX9_seed 1 = .ok (.getfield 7, 3) := by decide +kernel
theorem dX9_seed_4 : decode cX9_seed 4 = .ok (.bipush 8, 2) := by decide +kernel
theorem dX9_seed_6 : decode cX9_seed 6 = .ok (.iaload, 1) := by decide +kernel
theorem dX9_seed_7 : decode cX9_seed 7 = .ok (.istore_n 2, 1) := by decide +kernel
theorem dX9_seed_8 : decode cX9_seed 8 = .ok (.aload_n 0, 1) := by decide +kernel
theorem dX9_seed_9 : decode cX9_seed 9 = .ok (.getfield 7, 3) := by decide +kernel
theorem dX9_seed_12 : decode cX9_seed 12 = .ok (.bipush 8, 2) := by decide +kernel
theorem dX9_seed_14 : decode cX9_seed 14 = .ok (.iload_n 1, 1) := by decide +kernel
theorem dX9_seed_15 : decode cX9_seed 15 = .ok (.iastore, 1) := by decide +kernel
theorem dX9_seed_16 : decode cX9_seed 16 = .ok (.iload_n 2, 1) := by decide +kernel
theorem dX9_seed_17 : decode cX9_seed 17 = .ok (.ireturn, 1) := by decide +kernel
theorem dX9_then_0 : decode cX9_then 0 = .ok (.iload_n 1, 1) := by decide +kernel
theorem dX9_then_1 : decode cX9_then 1 = .ok (.iconst 0, 1) := by decide +kernel
theorem dX9_then_2 : decode cX9_then 2 = .ok (.bipush 60, 2) := by decide +kernel
theorem dX9_then_4 : decode cX9_then 4 = .ok (.invokestatic 47, 3) := by decide +kernel
theorem dX9_then_7 : decode cX9_then 7 = .ok (.ifCond .eq 21, 3) := by decide +kernel
theorem dX9_then_10 : decode cX9_then 10 = .ok (.aload_n 0, 1) := by decide +kernel
theorem dX9_then_11 : decode cX9_then 11 = .ok (.iload_n 2, 1) := by decide +kernel
theorem dX9_then_12 : decode cX9_then 12 = .ok (.invokevirtual 80, 3) := by decide +kernel
theorem dX9_then_15 : decode cX9_then 15 = .ok (.ifCond .eq 13, 3) := by decide +kernel
theorem dX9_then_18 : decode cX9_then 18 = .ok (.iload_n 3, 1) := by decide +kernel
theorem dX9_then_19 : decode cX9_then 19 = .ok (.iconst 0, 1) := by decide +kernel
theorem dX9_then_20 : decode cX9_then 20 = .ok (.bipush 15, 2) := by decide +kernel
theorem dX9_then_22 : decode cX9_then 22 = .ok (.invokestatic 47, 3) := by decide +kernel
theorem dX9_then_25 : decode cX9_then 25 = .ok (.ifCond .ne 9, 3) := by decide +kernel
theorem dX9_then_28 : decode cX9_then 28 = .ok (.aload_n 0, 1) := by decide +kernel
theorem dX9_then_29 : decode cX9_then 29 = .ok (.iconst 1, 1) := by decide +kernel
theorem dX9_then_30 : decode cX9_then 30 = .ok (.invokevirtual 70, 3) := by decide +kernel
theorem dX9_then_33 : decode cX9_then 33 = .ok (.ireturn, 1) := by decide +kernel
theorem dX9_then_34 : decode cX9_then 34 = .ok (.aload_n 0, 1) := by decide +kernel
theorem dX9_then_35 : decode cX9_then 35 = .ok (.getfield 7, 3) := by decide +kernel
theorem dX9_then_38 : decode cX9_then 38 = .ok (.aload_n 0, 1) := by decide +kernel
theorem dX9_then_39 : decode cX9_then 39 = .ok (.getfield 16, 3) := by decide +kernel
theorem dX9_then_42 : decode cX9_then 42 = .ok (.invokestatic 215, 3) := by decide +kernel
theorem dX9_then_45 : decode cX9_then 45 = .ok (.aload_n 0, 1) := by decide +kernel
theorem dX9_then_46 : decode cX9_then 46 = .ok (.iload_n 1, 1) := by decide +kernel
theorem dX9_then_47 : decode cX9_then 47 = .ok (.invokevirtual 212, 3) := by decide +kernel
theorem dX9_then_50 : decode cX9_then 50 = .ok (.aload_n 0, 1) := by decide +kernel
theorem dX9_then_51 : decode cX9_then 51 = .ok (.iload_n 2, 1) := by decide +kernel
theorem dX9_then_52 : decode cX9_then 52 = .ok (.iload_n 3, 1) := by decide +kernel
theorem dX9_then_53 : decode cX9_then 53 = .ok (.invokevirtual 83, 3) := by decide +kernel
theorem dX9_then_56 : decode cX9_then 56 = .ok (.istore 4, 2) := by decide +kernel
theorem dX9_then_58 : decode cX9_then 58 = .ok (.aload_n 0, 1) := by decide +kernel
theorem dX9_then_59 : decode cX9_then 59 = .ok (.getfield 16, 3) := by decide +kernel
theorem dX9_then_62 : decode cX9_then 62 = .ok (.aload_n 0, 1) := by decide +kernel
theorem dX9_then_63 : decode cX9_then 63 = .ok (.getfield 7, 3) := by decide +kernel
theorem dX9_then_66 : decode cX9_then 66 = .ok (.invokestatic 215, 3) := by decide +kernel
theorem dX9_then_69 : decode cX9_then 69 = .ok (.iload 4, 2) := by decide +kernel
theorem dX9_then_71 : decode cX9_then 71 = .ok (.ireturn, 1) := by decide +kernel
theorem dX9_keep_0 : decode cX9_keep 0 = .ok (.aload_n 0, 1) := by decide +kernel
theorem dX9_keep_1 : decode cX9_keep 1 = .ok (.iload_n 1, 1) := by decide +kernel
theorem dX9_keep_2 : decode cX9_keep 2 = .ok (.invokevirtual 80, 3) := by decide +kernel
theorem dX9_keep_5 : decode cX9_keep 5 = .ok (.ifCond .eq 20, 3) := by decide +kernel
theorem dX9_keep_8 : decode cX9_keep 8 = .ok (.iload_n 2, 1) := by decide +kernel
theorem dX9_keep_9 : decode cX9_keep 9 = .ok (.invokestatic 66, 3) := by decide +kernel
theorem dX9_keep_12 : decode cX9_keep 12 = .ok (.ifCond .eq 13, 3) := by decide +kernel
theorem dX9_keep_15 : decode cX9_keep 15 = .ok (.iload_n 3, 1) := by decide +kernel
theorem dX9_keep_16 : decode cX9_keep 16 = .ok (.iconst 1, 1) := by decide +kernel
theorem dX9_keep_17 : decode cX9_keep 17 = .ok (.bipush 20, 2) := by decide +kernel
theorem dX9_keep_19 : decode cX9_keep 19 = .ok (.invokestatic 47, 3) := by decide +kernel
theorem dX9_keep_22 : decode cX9_keep 22 = .ok (.ifCond .ne 9, 3) := by decide +kernel
theorem dX9_keep_25 : decode cX9_keep 25 = .ok (.aload_n 0, 1) := by decide +kernel
theorem dX9_keep_26 : decode cX9_keep 26 = .ok (.iconst 1, 1) := by decide +kernel
theorem dX9_keep_27 : decode cX9_keep 27 = .ok (.invokevirtual 70, 3) := by decide +kernel
theorem dX9_keep_30 : decode cX9_keep 30 = .ok (.ireturn, 1) := by decide +kernel
theorem dX9_keep_31 : decode cX9_keep 31 = .ok (.iconst 0, 1) := by decide +kernel
theorem dX9_keep_32 : decode cX9_keep 32 = .ok (.istore 4, 2) := by decide +kernel
theorem dX9_keep_34 : decode cX9_keep 34 = .ok (.iconst 0, 1) := by decide +kernel
theorem dX9_keep_35 : decode cX9_keep 35 = .ok (.istore 5, 2) := by decide +kernel
theorem dX9_keep_37 : decode cX9_keep 37 = .ok (.iconst 0, 1) := by decide +kernel
theorem dX9_keep_38 : decode cX9_keep 38 = .ok (.istore 6, 2) := by decide +kernel
theorem dX9_keep_40 : decode cX9_keep 40 = .ok (.iload 6, 2) := by decide +kernel
theorem dX9_keep_42 : decode cX9_keep 42 = .ok (.bipush 10, 2) := by decide +kernel
theorem dX9_keep_44 : decode cX9_keep 44 = .ok (.if_icmp .ge 74, 3) := by decide +kernel
theorem dX9_keep_47 : decode cX9_keep 47 = .ok (.aload_n 0, 1) := by decide +kernel
theorem dX9_keep_48 : decode cX9_keep 48 = .ok (.getfield 7, 3) := by decide +kernel
theorem dX9_keep_51 : decode cX9_keep 51 = .ok (.aload_n 0, 1) := by decide +kernel
theorem dX9_keep_52 : decode cX9_keep 52 = .ok (.getfield 16, 3) := by decide +kernel
theorem dX9_keep_55 : decode cX9_keep 55 = .ok (.invokestatic 215, 3) := by decide +kernel
theorem dX9_keep_58 : decode cX9_keep 58 = .ok (.aload_n 0, 1) := by decide +kernel
theorem dX9_keep_59 : decode cX9_keep 59 = .ok (.iload_n 1, 1) := by decide +kernel
theorem dX9_keep_60 : decode cX9_keep 60 = .ok (.iconst 3, 1) := by decide +kernel
theorem dX9_keep_61 : decode cX9_keep 61 = .ok (.iload_n 2, 1) := by decide +kernel
theorem dX9_keep_62 : decode cX9_keep 62 = .ok (.iadd, 1) := by decide +kernel
theorem dX9_keep_63 : decode cX9_keep 63 = .ok (.iload 6, 2) := by decide +kernel
theorem dX9_keep_65 : decode cX9_keep 65 = .ok (.invokevirtual 73, 3) := by decide +kernel
theorem dX9_keep_68 : decode cX9_keep 68 = .ok (.aload_n 0, 1) := by decide +kernel
theorem dX9_keep_69 : decode cX9_keep 69 = .ok (.iload_n 3, 1) := by decide +kernel
theorem dX9_keep_70 : decode cX9_keep 70 = .ok (.invokevirtual 212, 3) := by decide +kernel
theorem dX9_keep_73 : decode cX9_keep 73 = .ok (.aload_n 0, 1) := by decide +kernel
theorem dX9_keep_74 : decode cX9_keep 74 = .ok (.iload_n 1, 1) := by decide +kernel
theorem dX9_keep_75 : decode cX9_keep 75 = .ok (.iconst 2, 1) := by decide +kernel
theorem dX9_keep_76 : decode cX9_keep 76 = .ok (.invokevirtual 51, 3) := by decide +kernel
theorem dX9_keep_79 : decode cX9_keep 79 = .ok (.istore 7, 2) := by decide +kernel
theorem dX9_keep_81 : decode cX9_keep 81 = .ok (.aload_n 0, 1) := by decide +kernel
theorem dX9_keep_82 : decode cX9_keep 82 = .ok (.getfield 16, 3) := by decide +kernel
theorem dX9_keep_85 : decode cX9_keep 85 = .ok (.aload_n 0, 1) := by decide +kernel
theorem dX9_keep_86 : decode cX9_keep 86 = .ok (.getfield 7, 3) := by decide +kernel
theorem dX9_keep_89 : decode cX9_keep 89 = .ok (.invokestatic 215, 3) := by decide +kernel
theorem dX9_keep_92 : decode cX9_keep 92 = .ok (.iload 6, 2) := by decide +kernel
theorem dX9_keep_94 : decode cX9_keep 94 = .ok (.ifCond .eq 10, 3) := by decide +kernel
theorem dX9_keep_97 : decode cX9_keep 97 = .ok (.iload 7, 2) := by decide +kernel
theorem dX9_keep_99 : decode cX9_keep 99 = .ok (.iload 5, 2) := by decide +kernel
theorem dX9_keep_101 : decode cX9_keep 101 = .ok (.if_icmp .le 11, 3) := by decide +kernel
theorem dX9_keep_104 : decode cX9_keep 104 = .ok (.iload 6, 2) := by decide +kernel
theorem dX9_keep_106 : decode cX9_keep 106 = .ok (.istore 4, 2) := by decide +kernel
theorem dX9_keep_108 : decode cX9_keep 108 = .ok (.iload 7, 2) := by decide +kernel
theorem dX9_keep_110 : decode cX9_keep 110 = .ok (.istore 5, 2) := by decide +kernel
theorem dX9_keep_112 : decode cX9_keep 112 = .ok (.iinc 6 1, 3) := by decide +kernel
theorem dX9_keep_115 : decode cX9_keep 115 = .ok (.goto (-75), 3) := by decide +kernel
theorem dX9_keep_118 : decode cX9_keep 118 = .ok (.iload 4, 2) := by decide +kernel
theorem dX9_keep_120 : decode cX9_keep 120 = .ok (.ireturn, 1) := by decide +kernel
theorem dX9_purseBy_0 : decode cX9_purseBy 0 = .ok (.aload_n 0, 1) := by decide +kernel
theorem dX9_purseBy_1 : decode cX9_purseBy 1 = .ok (.getfield 7, 3) := by decide +kernel
theorem dX9_purseBy_4 : decode cX9_purseBy 4 = .ok (.aload_n 0, 1) := by decide +kernel
theorem dX9_purseBy_5 : decode cX9_purseBy 5 = .ok (.getfield 16, 3) := by decide +kernel
theorem dX9_purseBy_8 : decode cX9_purseBy 8 = .ok (.invokestatic 215, 3) := by decide +kernel
theorem dX9_purseBy_11 : decode cX9_purseBy 11 = .ok (.iconst 0, 1) := by decide +kernel
theorem dX9_purseBy_12 : decode cX9_purseBy 12 = .ok (.istore 4, 2) := by decide +kernel
theorem dX9_purseBy_14 : decode cX9_purseBy 14 = .ok (.iload 4, 2) := by decide +kernel
theorem dX9_purseBy_16 : decode cX9_purseBy 16 = .ok (.bipush 6, 2) := by decide +kernel
theorem dX9_purseBy_18 : decode cX9_purseBy 18 = .ok (.if_icmp .ge 41, 3) := by decide +kernel
theorem dX9_purseBy_21 : decode cX9_purseBy 21 = .ok (.aload_n 0, 1) := by decide +kernel
theorem dX9_purseBy_22 : decode cX9_purseBy 22 = .ok (.iload_n 1, 1) := by decide +kernel
theorem dX9_purseBy_23 : decode cX9_purseBy 23 = .ok (.iconst 3, 1) := by decide +kernel
theorem dX9_purseBy_24 : decode cX9_purseBy 24 = .ok (.iload 4, 2) := by decide +kernel
theorem dX9_purseBy_26 : decode cX9_purseBy 26 = .ok (.iadd, 1) := by decide +kernel
theorem dX9_purseBy_27 : decode cX9_purseBy 27 = .ok (.iload_n 2, 1) := by decide +kernel
theorem dX9_purseBy_28 : decode cX9_purseBy 28 = .ok (.iload 4, 2) := by decide +kernel
theorem dX9_purseBy_30 : decode cX9_purseBy 30 = .ok (.ishr, 1) := by decide +kernel
theorem dX9_purseBy_31 : decode cX9_purseBy 31 = .ok (.iconst 1, 1) := by decide +kernel
theorem dX9_purseBy_32 : decode cX9_purseBy 32 = .ok (.iand, 1) := by decide +kernel
theorem dX9_purseBy_33 : decode cX9_purseBy 33 = .ok (.iconst 1, 1) := by decide +kernel
theorem dX9_purseBy_34 : decode cX9_purseBy 34 = .ok (.if_icmp .ne 15, 3) := by decide +kernel
theorem dX9_purseBy_37 : decode cX9_purseBy 37 = .ok (.aload_n 0, 1) := by decide +kernel
theorem dX9_purseBy_38 : decode cX9_purseBy 38 = .ok (.iload_n 1, 1) := by decide +kernel
theorem dX9_purseBy_39 : decode cX9_purseBy 39 = .ok (.iconst 3, 1) := by decide +kernel
theorem dX9_purseBy_40 : decode cX9_purseBy 40 = .ok (.iload 4, 2) := by decide +kernel
theorem dX9_purseBy_42 : decode cX9_purseBy 42 = .ok (.iadd, 1) := by decide +kernel
theorem dX9_purseBy_43 : decode cX9_purseBy 43 = .ok (.invokevirtual 51, 3) := by decide +kernel
theorem dX9_purseBy_46 : decode cX9_purseBy 46 = .ok (.goto 4, 3) := by decide +kernel
theorem dX9_purseBy_49 : decode cX9_purseBy 49 = .ok (.iconst 0, 1) := by decide +kernel
theorem dX9_purseBy_50 : decode cX9_purseBy 50 = .ok (.invokevirtual 73, 3) := by decide +kernel
theorem dX9_purseBy_53 : decode cX9_purseBy 53 = .ok (.iinc 4 1, 3) := by decide +kernel
theorem dX9_purseBy_56 : decode cX9_purseBy 56 = .ok (.goto (-42), 3) := by decide +kernel
theorem dX9_purseBy_59 : decode cX9_purseBy 59 = .ok (.aload_n 0, 1) := by decide +kernel
theorem dX9_purseBy_60 : decode cX9_purseBy 60 = .ok (.iload_n 3, 1) := by decide +kernel
theorem dX9_purseBy_61 : decode cX9_purseBy 61 = .ok (.invokevirtual 212, 3) := by decide +kernel
theorem dX9_purseBy_64 : decode cX9_purseBy 64 = .ok (.aload_n 0, 1) := by decide +kernel
theorem dX9_purseBy_65 : decode cX9_purseBy 65 = .ok (.iload_n 1, 1) := by decide +kernel
theorem dX9_purseBy_66 : decode cX9_purseBy 66 = .ok (.iconst 2, 1) := by decide +kernel
theorem dX9_purseBy_67 : decode cX9_purseBy 67 = .ok (.invokevirtual 51, 3) := by decide +kernel
theorem dX9_purseBy_70 : decode cX9_purseBy 70 = .ok (.istore 4, 2) := by decide +kernel
theorem dX9_purseBy_72 : decode cX9_purseBy 72 = .ok (.aload_n 0, 1) := by decide +kernel
theorem dX9_purseBy_73 : decode cX9_purseBy 73 = .ok (.getfield 16, 3) := by decide +kernel
theorem dX9_purseBy_76 : decode cX9_purseBy 76 = .ok (.aload_n 0, 1) := by decide +kernel
theorem dX9_purseBy_77 : decode cX9_purseBy 77 = .ok (.getfield 7, 3) := by decide +kernel
theorem dX9_purseBy_80 : decode cX9_purseBy 80 = .ok (.invokestatic 215, 3) := by decide +kernel
theorem dX9_purseBy_83 : decode cX9_purseBy 83 = .ok (.iload 4, 2) := by decide +kernel
theorem dX9_purseBy_85 : decode cX9_purseBy 85 = .ok (.ireturn, 1) := by decide +kernel
theorem dX9_range_0 : decode cX9_range 0 = .ok (.aload_n 0, 1) := by decide +kernel
theorem dX9_range_1 : decode cX9_range 1 = .ok (.iload_n 1, 1) := by decide +kernel
theorem dX9_range_2 : decode cX9_range 2 = .ok (.invokevirtual 80, 3) := by decide +kernel
theorem dX9_range_5 : decode cX9_range 5 = .ok (.ifCond .eq 12, 3) := by decide +kernel
theorem dX9_range_8 : decode cX9_range 8 = .ok (.iload_n 2, 1) := by decide +kernel
theorem dX9_range_9 : decode cX9_range 9 = .ok (.iconst 1, 1) := by decide +kernel
theorem dX9_range_10 : decode cX9_range 10 = .ok (.iconst 5, 1) := by decide +kernel
theorem dX9_range_11 : decode cX9_range 11 = .ok (.invokestatic 47, 3) := by decide +kernel
theorem dX9_range_14 : decode cX9_range 14 = .ok (.ifCond .ne 9, 3) := by decide +kernel
theorem dX9_range_17 : decode cX9_range 17 = .ok (.aload_n 0, 1) := by decide +kernel
theorem dX9_range_18 : decode cX9_range 18 = .ok (.iconst 1, 1) := by decide +kernel
theorem dX9_range_19 : decode cX9_range 19 = .ok (.invokevirtual 70, 3) := by decide +kernel
theorem dX9_range_22 : decode cX9_range 22 = .ok (.ireturn, 1) := by decide +kernel
theorem dX9_range_23 : decode cX9_range 23 = .ok (.iconst 0, 1) := by decide +kernel
theorem dX9_range_24 : decode cX9_range 24 = .ok (.istore_n 3, 1) := by decide +kernel
theorem dX9_range_25 : decode cX9_range 25 = .ok (.aload_n 0, 1) := by decide +kernel
theorem dX9_range_26 : decode cX9_range 26 = .ok (.iload_n 1, 1) := by decide +kernel
theorem dX9_range_27 : decode cX9_range 27 = .ok (.iconst 0, 1) := by decide +kernel
theorem dX9_range_28 : decode cX9_range 28 = .ok (.iload_n 2, 1) := by decide +kernel
theorem dX9_range_29 : decode cX9_range 29 = .ok (.invokevirtual 219, 3) := by decide +kernel
theorem dX9_range_32 : decode cX9_range 32 = .ok (.istore 4, 2) := by decide +kernel
theorem dX9_range_34 : decode cX9_range 34 = .ok (.iconst 1, 1) := by decide +kernel
theorem dX9_range_35 : decode cX9_range 35 = .ok (.istore 5, 2) := by decide +kernel
theorem dX9_range_37 : decode cX9_range 37 = .ok (.iload 5, 2) := by decide +kernel
theorem dX9_range_39 : decode cX9_range 39 = .ok (.bipush 64, 2) := by decide +kernel
theorem dX9_range_41 : decode cX9_range 41 = .ok (.if_icmp .ge 52, 3) := by decide +kernel
theorem dX9_range_44 : decode cX9_range 44 = .ok (.aload_n 0, 1) := by decide +kernel
theorem dX9_range_45 : decode cX9_range 45 = .ok (.iload_n 1, 1) := by decide +kernel
theorem dX9_range_46 : decode cX9_range 46 = .ok (.iload 5, 2) := by decide +kernel
theorem dX9_range_48 : decode cX9_range 48 = .ok (.iload_n 2, 1) := by decide +kernel
theorem dX9_range_49 : decode cX9_range 49 = .ok (.invokevirtual 219, 3) := by decide +kernel
theorem dX9_range_52 : decode cX9_range 52 = .ok (.istore 6, 2) := by decide +kernel
theorem dX9_range_54 : decode cX9_range 54 = .ok (.iload 6, 2) := by decide +kernel
theorem dX9_range_56 : decode cX9_range 56 = .ok (.iload 4, 2) := by decide +kernel
theorem dX9_range_58 : decode cX9_range 58 = .ok (.if_icmp .gt 22, 3) := by decide +kernel
theorem dX9_range_61 : decode cX9_range 61 = .ok (.iload 6, 2) := by decide +kernel
theorem dX9_range_63 : decode cX9_range 63 = .ok (.iload 4, 2) := by decide +kernel
theorem dX9_range_65 : decode cX9_range 65 = .ok (.if_icmp .ne 22, 3) := by decide +kernel
theorem dX9_range_68 : decode cX9_range 68 = .ok (.iload 5, 2) := by decide +kernel
theorem dX9_range_70 : decode cX9_range 70 = .ok (.invokestatic 205, 3) := by decide +kernel
theorem dX9_range_73 : decode cX9_range 73 = .ok (.iload_n 3, 1) := by decide +kernel
theorem dX9_range_74 : decode cX9_range 74 = .ok (.invokestatic 205, 3) := by decide +kernel
theorem dX9_range_77 : decode cX9_range 77 = .ok (.if_icmp .ge 10, 3) := by decide +kernel
theorem dX9_range_80 : decode cX9_range 80 = .ok (.iload 5, 2) := by decide +kernel
theorem dX9_range_82 : decode cX9_range 82 = .ok (.istore_n 3, 1) := by decide +kernel
theorem dX9_range_83 : decode cX9_range 83 = .ok (.iload 6, 2) := by decide +kernel
theorem dX9_range_85 : decode cX9_range 85 = .ok (.istore 4, 2) := by decide +kernel
theorem dX9_range_87 : decode cX9_range 87 = .ok (.iinc 5 1, 3) := by decide +kernel
theorem dX9_range_90 : decode cX9_range 90 = .ok (.goto (-53), 3) := by decide +kernel
theorem dX9_range_93 : decode cX9_range 93 = .ok (.iload_n 3, 1) := by decide +kernel
theorem dX9_range_94 : decode cX9_range 94 = .ok (.ireturn, 1) := by decide +kernel
theorem dX9_turns_0 : decode cX9_turns 0 = .ok (.iconst 0, 1) := by decide +kernel
theorem dX9_turns_1 : decode cX9_turns 1 = .ok (.istore_n 2, 1) := by decide +kernel
theorem dX9_turns_2 : decode cX9_turns 2 = .ok (.iload_n 2, 1) := by decide +kernel
theorem dX9_turns_3 : decode cX9_turns 3 = .ok (.aload_n 0, 1) := by decide +kernel
theorem dX9_turns_4 : decode cX9_turns 4 = .ok (.getfield 7, 3) := by decide +kernel
theorem dX9_turns_7 : decode cX9_turns 7 = .ok (.iconst 0, 1) := by decide +kernel
theorem dX9_turns_8 : decode cX9_turns 8 = .ok (.iaload, 1) := by decide +kernel
theorem dX9_turns_9 : decode cX9_turns 9 = .ok (.if_icmp .ge 66, 3) := by decide +kernel
theorem dX9_turns_12 : decode cX9_turns 12 = .ok (.iload_n 2, 1) := by decide +kernel
theorem dX9_turns_13 : decode cX9_turns 13 = .ok (.iload_n 1, 1) := by decide +kernel
theorem dX9_turns_14 : decode cX9_turns 14 = .ok (.iadd, 1) := by decide +kernel
theorem dX9_turns_15 : decode cX9_turns 15 = .ok (.aload_n 0, 1) := by decide +kernel
theorem dX9_turns_16 : decode cX9_turns 16 = .ok (.getfield 7, 3) := by decide +kernel
theorem dX9_turns_19 : decode cX9_turns 19 = .ok (.iconst 0, 1) := by decide +kernel
theorem dX9_turns_20 : decode cX9_turns 20 = .ok (.iaload, 1) := by decide +kernel
theorem dX9_turns_21 : decode cX9_turns 21 = .ok (.irem, 1) := by decide +kernel
theorem dX9_turns_22 : decode cX9_turns 22 = .ok (.istore_n 3, 1) := by decide +kernel
theorem dX9_turns_23 : decode cX9_turns 23 = .ok (.iconst 0, 1) := by decide +kernel
theorem dX9_turns_24 : decode cX9_turns 24 = .ok (.istore 4, 2) := by decide +kernel
theorem dX9_turns_26 : decode cX9_turns 26 = .ok (.iload 4, 2) := by decide +kernel
theorem dX9_turns_28 : decode cX9_turns 28 = .ok (.bipush 21, 2) := by decide +kernel
theorem dX9_turns_30 : decode cX9_turns 30 = .ok (.if_icmp .ge 39, 3) := by decide +kernel
theorem dX9_turns_33 : decode cX9_turns 33 = .ok (.aload_n 0, 1) := by decide +kernel
theorem dX9_turns_34 : decode cX9_turns 34 = .ok (.getfield 7, 3) := by decide +kernel
theorem dX9_turns_37 : decode cX9_turns 37 = .ok (.bipush 16, 2) := by decide +kernel
theorem dX9_turns_39 : decode cX9_turns 39 = .ok (.bipush 21, 2) := by decide +kernel
theorem dX9_turns_41 : decode cX9_turns 41 = .ok (.iload_n 3, 1) := by decide +kernel
theorem dX9_turns_42 : decode cX9_turns 42 = .ok (.imul, 1) := by decide +kernel
theorem dX9_turns_43 : decode cX9_turns 43 = .ok (.iadd, 1) := by decide +kernel
theorem dX9_turns_44 : decode cX9_turns 44 = .ok (.iload 4, 2) := by decide +kernel
theorem dX9_turns_46 : decode cX9_turns 46 = .ok (.iadd, 1) := by decide +kernel
theorem dX9_turns_47 : decode cX9_turns 47 = .ok (.aload_n 0, 1) := by decide +kernel
theorem dX9_turns_48 : decode cX9_turns 48 = .ok (.getfield 16, 3) := by decide +kernel
theorem dX9_turns_51 : decode cX9_turns 51 = .ok (.bipush 16, 2) := by decide +kernel
theorem dX9_turns_53 : decode cX9_turns 53 = .ok (.bipush 21, 2) := by decide +kernel
theorem dX9_turns_55 : decode cX9_turns 55 = .ok (.iload_n 2, 1) := by decide +kernel
theorem dX9_turns_56 : decode cX9_turns 56 = .ok (.imul, 1) := by decide +kernel
theorem dX9_turns_57 : decode cX9_turns 57 = .ok (.iadd, 1) := by decide +kernel
theorem dX9_turns_58 : decode cX9_turns 58 = .ok (.iload 4, 2) := by decide +kernel
theorem dX9_turns_60 : decode cX9_turns 60 = .ok (.iadd, 1) := by decide +kernel
theorem dX9_turns_61 : decode cX9_turns 61 = .ok (.iaload, 1) := by decide +kernel
theorem dX9_turns_62 : decode cX9_turns 62 = .ok (.iastore, 1) := by decide +kernel
theorem dX9_turns_63 : decode cX9_turns 63 = .ok (.iinc 4 1, 3) := by decide +kernel
theorem dX9_turns_66 : decode cX9_turns 66 = .ok (.goto (-40), 3) := by decide +kernel
theorem dX9_turns_69 : decode cX9_turns 69 = .ok (.iinc 2 1, 3) := by decide +kernel
theorem dX9_turns_72 : decode cX9_turns 72 = .ok (.goto (-70), 3) := by decide +kernel
theorem dX9_turns_75 : decode cX9_turns 75 = .ok (.return_, 1) := by decide +kernel
theorem dX9_turn_0 : decode cX9_turn 0 = .ok (.aload_n 0, 1) := by decide +kernel
theorem dX9_turn_1 : decode cX9_turn 1 = .ok (.iload_n 1, 1) := by decide +kernel
theorem dX9_turn_2 : decode cX9_turn 2 = .ok (.invokevirtual 80, 3) := by decide +kernel
theorem dX9_turn_5 : decode cX9_turn 5 = .ok (.ifCond .eq 13, 3) := by decide +kernel
theorem dX9_turn_8 : decode cX9_turn 8 = .ok (.iload_n 2, 1) := by decide +kernel
theorem dX9_turn_9 : decode cX9_turn 9 = .ok (.iconst 1, 1) := by decide +kernel
theorem dX9_turn_10 : decode cX9_turn 10 = .ok (.bipush 20, 2) := by decide +kernel
theorem dX9_turn_12 : decode cX9_turn 12 = .ok (.invokestatic 47, 3) := by decide +kernel
theorem dX9_turn_15 : decode cX9_turn 15 = .ok (.ifCond .ne 9, 3) := by decide +kernel
theorem dX9_turn_18 : decode cX9_turn 18 = .ok (.aload_n 0, 1) := by decide +kernel
theorem dX9_turn_19 : decode cX9_turn 19 = .ok (.iconst 1, 1) := by decide +kernel
theorem dX9_turn_20 : decode cX9_turn 20 = .ok (.invokevirtual 70, 3) := by decide +kernel
theorem dX9_turn_23 : decode cX9_turn 23 = .ok (.ireturn, 1) := by decide +kernel
theorem dX9_turn_24 : decode cX9_turn 24 = .ok (.iconst 0, 1) := by decide +kernel
theorem dX9_turn_25 : decode cX9_turn 25 = .ok (.istore_n 3, 1) := by decide +kernel
theorem dX9_turn_26 : decode cX9_turn 26 = .ok (.iconst 0, 1) := by decide +kernel
theorem dX9_turn_27 : decode cX9_turn 27 = .ok (.istore 4, 2) := by decide +kernel
theorem dX9_turn_29 : decode cX9_turn 29 = .ok (.iconst 0, 1) := by decide +kernel
theorem dX9_turn_30 : decode cX9_turn 30 = .ok (.istore 5, 2) := by decide +kernel
theorem dX9_turn_32 : decode cX9_turn 32 = .ok (.iload 5, 2) := by decide +kernel
theorem dX9_turn_34 : decode cX9_turn 34 = .ok (.aload_n 0, 1) := by decide +kernel
theorem dX9_turn_35 : decode cX9_turn 35 = .ok (.getfield 7, 3) := by decide +kernel
theorem dX9_turn_38 : decode cX9_turn 38 = .ok (.iconst 0, 1) := by decide +kernel
theorem dX9_turn_39 : decode cX9_turn 39 = .ok (.iaload, 1) := by decide +kernel
theorem dX9_turn_40 : decode cX9_turn 40 = .ok (.if_icmp .ge 79, 3) := by decide +kernel
theorem dX9_turn_43 : decode cX9_turn 43 = .ok (.aload_n 0, 1) := by decide +kernel
theorem dX9_turn_44 : decode cX9_turn 44 = .ok (.getfield 7, 3) := by decide +kernel
theorem dX9_turn_47 : decode cX9_turn 47 = .ok (.aload_n 0, 1) := by decide +kernel
theorem dX9_turn_48 : decode cX9_turn 48 = .ok (.getfield 16, 3) := by decide +kernel
theorem dX9_turn_51 : decode cX9_turn 51 = .ok (.invokestatic 215, 3) := by decide +kernel
theorem dX9_turn_54 : decode cX9_turn 54 = .ok (.aload_n 0, 1) := by decide +kernel
theorem dX9_turn_55 : decode cX9_turn 55 = .ok (.iload 5, 2) := by decide +kernel
theorem dX9_turn_57 : decode cX9_turn 57 = .ok (.invokevirtual 222, 3) := by decide +kernel
theorem dX9_turn_60 : decode cX9_turn 60 = .ok (.aload_n 0, 1) := by decide +kernel
theorem dX9_turn_61 : decode cX9_turn 61 = .ok (.iload_n 2, 1) := by decide +kernel
theorem dX9_turn_62 : decode cX9_turn 62 = .ok (.invokevirtual 212, 3) := by decide +kernel
theorem dX9_turn_65 : decode cX9_turn 65 = .ok (.aload_n 0, 1) := by decide +kernel
theorem dX9_turn_66 : decode cX9_turn 66 = .ok (.iload_n 1, 1) := by decide +kernel
theorem dX9_turn_67 : decode cX9_turn 67 = .ok (.iload 5, 2) := by decide +kernel
theorem dX9_turn_69 : decode cX9_turn 69 = .ok (.iadd, 1) := by decide +kernel
theorem dX9_turn_70 : decode cX9_turn 70 = .ok (.aload_n 0, 1) := by decide +kernel
theorem dX9_turn_71 : decode cX9_turn 71 = .ok (.getfield 7, 3) := by decide +kernel
theorem dX9_turn_74 : decode cX9_turn 74 = .ok (.iconst 0, 1) := by decide +kernel
theorem dX9_turn_75 : decode cX9_turn 75 = .ok (.iaload, 1) := by decide +kernel
theorem dX9_turn_76 : decode cX9_turn 76 = .ok (.irem, 1) := by decide +kernel
theorem dX9_turn_77 : decode cX9_turn 77 = .ok (.iconst 2, 1) := by decide +kernel
theorem dX9_turn_78 : decode cX9_turn 78 = .ok (.invokevirtual 51, 3) := by decide +kernel
theorem dX9_turn_81 : decode cX9_turn 81 = .ok (.istore 6, 2) := by decide +kernel
theorem dX9_turn_83 : decode cX9_turn 83 = .ok (.aload_n 0, 1) := by decide +kernel
theorem dX9_turn_84 : decode cX9_turn 84 = .ok (.getfield 16, 3) := by decide +kernel
theorem dX9_turn_87 : decode cX9_turn 87 = .ok (.aload_n 0, 1) := by decide +kernel
theorem dX9_turn_88 : decode cX9_turn 88 = .ok (.getfield 7, 3) := by decide +kernel
theorem dX9_turn_91 : decode cX9_turn 91 = .ok (.invokestatic 215, 3) := by decide +kernel
theorem dX9_turn_94 : decode cX9_turn 94 = .ok (.iload 5, 2) := by decide +kernel
theorem dX9_turn_96 : decode cX9_turn 96 = .ok (.ifCond .eq 10, 3) := by decide +kernel
theorem dX9_turn_99 : decode cX9_turn 99 = .ok (.iload 6, 2) := by decide +kernel
theorem dX9_turn_101 : decode cX9_turn 101 = .ok (.iload 4, 2) := by decide +kernel
theorem dX9_turn_103 : decode cX9_turn 103 = .ok (.if_icmp .le 10, 3) := by decide +kernel
theorem dX9_turn_106 : decode cX9_turn 106 = .ok (.iload 5, 2) := by decide +kernel
theorem dX9_turn_108 : decode cX9_turn 108 = .ok (.istore_n 3, 1) := by decide +kernel
theorem dX9_turn_109 : decode cX9_turn 109 = .ok (.iload 6, 2) := by decide +kernel
theorem dX9_turn_111 : decode cX9_turn 111 = .ok (.istore 4, 2) := by decide +kernel
theorem dX9_turn_113 : decode cX9_turn 113 = .ok (.iinc 5 1, 3) := by decide +kernel
theorem dX9_turn_116 : decode cX9_turn 116 = .ok (.goto (-84), 3) := by decide +kernel
theorem dX9_turn_119 : decode cX9_turn 119 = .ok (.iload_n 3, 1) := by decide +kernel
theorem dX9_turn_120 : decode cX9_turn 120 = .ok (.ireturn, 1) := by decide +kernel
theorem dX9_behindVisits_0 : decode cX9_behindVisits 0 = .ok (.iconst 0, 1) := by decide +kernel
theorem dX9_behindVisits_1 : decode cX9_behindVisits 1 = .ok (.istore_n 2, 1) := by decide +kernel
theorem dX9_behindVisits_2 : decode cX9_behindVisits 2 = .ok (.iload_n 2, 1) := by decide +kernel
theorem dX9_behindVisits_3 : decode cX9_behindVisits 3 = .ok (.aload_n 0, 1) := by decide +kernel
theorem dX9_behindVisits_4 : decode cX9_behindVisits 4 = .ok (.getfield 7, 3) := by decide +kernel
theorem dX9_behindVisits_7 : decode cX9_behindVisits 7 = .ok (.iconst 1, 1) := by decide +kernel
theorem dX9_behindVisits_8 : decode cX9_behindVisits 8 = .ok (.iaload, 1) := by decide +kernel
theorem dX9_behindVisits_9 : decode cX9_behindVisits 9 = .ok (.if_icmp .ge 15, 3) := by decide +kernel
theorem dX9_behindVisits_12 : decode cX9_behindVisits 12 = .ok (.aload_n 0, 1) := by decide +kernel
theorem dX9_behindVisits_13 : decode cX9_behindVisits 13 = .ok (.iload_n 2, 1) := by decide +kernel
theorem dX9_behindVisits_14 : decode cX9_behindVisits 14 = .ok (.invokevirtual 198, 3) := by decide +kernel
theorem dX9_behindVisits_17 : decode cX9_behindVisits 17 = .ok (.istore_n 3, 1) := by decide +kernel
theorem dX9_behindVisits_18 : decode cX9_behindVisits 18 = .ok (.iinc 2 1, 3) := by decide +kernel
theorem dX9_behindVisits_21 : decode cX9_behindVisits 21 = .ok (.goto (-19), 3) := by decide +kernel
theorem dX9_behindVisits_24 : decode cX9_behindVisits 24 = .ok (.aload_n 0, 1) := by decide +kernel
theorem dX9_behindVisits_25 : decode cX9_behindVisits 25 = .ok (.iload_n 1, 1) := by decide +kernel
theorem dX9_behindVisits_26 : decode cX9_behindVisits 26 = .ok (.iconst 2, 1) := by decide +kernel
theorem dX9_behindVisits_27 : decode cX9_behindVisits 27 = .ok (.invokevirtual 51, 3) := by decide +kernel
theorem dX9_behindVisits_30 : decode cX9_behindVisits 30 = .ok (.istore_n 2, 1) := by decide +kernel
theorem dX9_behindVisits_31 : decode cX9_behindVisits 31 = .ok (.aload_n 0, 1) := by decide +kernel
theorem dX9_behindVisits_32 : decode cX9_behindVisits 32 = .ok (.getfield 16, 3) := by decide +kernel
theorem dX9_behindVisits_35 : decode cX9_behindVisits 35 = .ok (.aload_n 0, 1) := by decide +kernel
theorem dX9_behindVisits_36 : decode cX9_behindVisits 36 = .ok (.getfield 7, 3) := by decide +kernel
theorem dX9_behindVisits_39 : decode cX9_behindVisits 39 = .ok (.invokestatic 215, 3) := by decide +kernel
theorem dX9_behindVisits_42 : decode cX9_behindVisits 42 = .ok (.iload_n 2, 1) := by decide +kernel
theorem dX9_behindVisits_43 : decode cX9_behindVisits 43 = .ok (.ireturn, 1) := by decide +kernel
theorem dX9_out_0 : decode cX9_out 0 = .ok (.aload_n 0, 1) := by decide +kernel
theorem dX9_out_1 : decode cX9_out 1 = .ok (.iload_n 1, 1) := by decide +kernel
theorem dX9_out_2 : decode cX9_out 2 = .ok (.invokevirtual 80, 3) := by decide +kernel
theorem dX9_out_5 : decode cX9_out 5 = .ok (.ifCond .eq 10, 3) := by decide +kernel
theorem dX9_out_8 : decode cX9_out 8 = .ok (.iload_n 2, 1) := by decide +kernel
theorem dX9_out_9 : decode cX9_out 9 = .ok (.invokestatic 66, 3) := by decide +kernel
theorem dX9_out_12 : decode cX9_out 12 = .ok (.ifCond .ne 9, 3) := by decide +kernel
theorem dX9_out_15 : decode cX9_out 15 = .ok (.aload_n 0, 1) := by decide +kernel
theorem dX9_out_16 : decode cX9_out 16 = .ok (.iconst 1, 1) := by decide +kernel
theorem dX9_out_17 : decode cX9_out 17 = .ok (.invokevirtual 70, 3) := by decide +kernel
theorem dX9_out_20 : decode cX9_out 20 = .ok (.ireturn, 1) := by decide +kernel
theorem dX9_out_21 : decode cX9_out 21 = .ok (.aload_n 0, 1) := by decide +kernel
theorem dX9_out_22 : decode cX9_out 22 = .ok (.iload_n 1, 1) := by decide +kernel
theorem dX9_out_23 : decode cX9_out 23 = .ok (.invokevirtual 179, 3) := by decide +kernel
theorem dX9_out_26 : decode cX9_out 26 = .ok (.ifCond .eq 19, 3) := by decide +kernel
theorem dX9_out_29 : decode cX9_out 29 = .ok (.aload_n 0, 1) := by decide +kernel
theorem dX9_out_30 : decode cX9_out 30 = .ok (.aload_n 0, 1) := by decide +kernel
theorem dX9_out_31 : decode cX9_out 31 = .ok (.iload_n 1, 1) := by decide +kernel
theorem dX9_out_32 : decode cX9_out 32 = .ok (.invokevirtual 55, 3) := by decide +kernel
theorem dX9_out_35 : decode cX9_out 35 = .ok (.bipush 9, 2) := by decide +kernel
theorem dX9_out_37 : decode cX9_out 37 = .ok (.iload_n 2, 1) := by decide +kernel
theorem dX9_out_38 : decode cX9_out 38 = .ok (.iadd, 1) := by decide +kernel
theorem dX9_out_39 : decode cX9_out 39 = .ok (.invokevirtual 51, 3) := by decide +kernel
theorem dX9_out_42 : decode cX9_out 42 = .ok (.ifCond .ne 9, 3) := by decide +kernel
theorem dX9_out_45 : decode cX9_out 45 = .ok (.aload_n 0, 1) := by decide +kernel
theorem dX9_out_46 : decode cX9_out 46 = .ok (.iconst 3, 1) := by decide +kernel
theorem dX9_out_47 : decode cX9_out 47 = .ok (.invokevirtual 70, 3) := by decide +kernel
theorem dX9_out_50 : decode cX9_out 50 = .ok (.ireturn, 1) := by decide +kernel
theorem dX9_out_51 : decode cX9_out 51 = .ok (.aload_n 0, 1) := by decide +kernel
theorem dX9_out_52 : decode cX9_out 52 = .ok (.getfield 7, 3) := by decide +kernel
theorem dX9_out_55 : decode cX9_out 55 = .ok (.aload_n 0, 1) := by decide +kernel
theorem dX9_out_56 : decode cX9_out 56 = .ok (.getfield 16, 3) := by decide +kernel
theorem dX9_out_59 : decode cX9_out 59 = .ok (.invokestatic 215, 3) := by decide +kernel
theorem dX9_out_62 : decode cX9_out 62 = .ok (.aload_n 0, 1) := by decide +kernel
theorem dX9_out_63 : decode cX9_out 63 = .ok (.iload_n 1, 1) := by decide +kernel
theorem dX9_out_64 : decode cX9_out 64 = .ok (.invokevirtual 225, 3) := by decide +kernel
theorem dX9_out_67 : decode cX9_out 67 = .ok (.istore_n 3, 1) := by decide +kernel
theorem dX9_out_68 : decode cX9_out 68 = .ok (.aload_n 0, 1) := by decide +kernel
theorem dX9_out_69 : decode cX9_out 69 = .ok (.iload_n 1, 1) := by decide +kernel
theorem dX9_out_70 : decode cX9_out 70 = .ok (.iload_n 2, 1) := by decide +kernel
theorem dX9_out_71 : decode cX9_out 71 = .ok (.invokevirtual 182, 3) := by decide +kernel
theorem dX9_out_74 : decode cX9_out 74 = .ok (.aload_n 0, 1) := by decide +kernel
theorem dX9_out_75 : decode cX9_out 75 = .ok (.iload_n 1, 1) := by decide +kernel
theorem dX9_out_76 : decode cX9_out 76 = .ok (.invokevirtual 225, 3) := by decide +kernel
theorem dX9_out_79 : decode cX9_out 79 = .ok (.iload_n 3, 1) := by decide +kernel
theorem dX9_out_80 : decode cX9_out 80 = .ok (.isub, 1) := by decide +kernel
theorem dX9_out_81 : decode cX9_out 81 = .ok (.ireturn, 1) := by decide +kernel
theorem dX9_joins_0 : decode cX9_joins 0 = .ok (.aload_n 0, 1) := by decide +kernel
theorem dX9_joins_1 : decode cX9_joins 1 = .ok (.iload_n 1, 1) := by decide +kernel
theorem dX9_joins_2 : decode cX9_joins 2 = .ok (.aload_n 0, 1) := by decide +kernel
theorem dX9_joins_3 : decode cX9_joins 3 = .ok (.iload_n 1, 1) := by decide +kernel
theorem dX9_joins_4 : decode cX9_joins 4 = .ok (.iconst 1, 1) := by decide +kernel
theorem dX9_joins_5 : decode cX9_joins 5 = .ok (.iadd, 1) := by decide +kernel
theorem dX9_joins_6 : decode cX9_joins 6 = .ok (.iconst 2, 1) := by decide +kernel
theorem dX9_joins_7 : decode cX9_joins 7 = .ok (.invokevirtual 51, 3) := by decide +kernel
theorem dX9_joins_10 : decode cX9_joins 10 = .ok (.invokevirtual 176, 3) := by decide +kernel
theorem dX9_joins_13 : decode cX9_joins 13 = .ok (.iconst 0, 1) := by decide +kernel
theorem dX9_joins_14 : decode cX9_joins 14 = .ok (.istore_n 2, 1) := by decide +kernel
theorem dX9_joins_15 : decode cX9_joins 15 = .ok (.iload_n 2, 1) := by decide +kernel
theorem dX9_joins_16 : decode cX9_joins 16 = .ok (.bipush 6, 2) := by decide +kernel
theorem dX9_joins_18 : decode cX9_joins 18 = .ok (.if_icmp .ge 78, 3) := by decide +kernel
theorem dX9_joins_21 : decode cX9_joins 21 = .ok (.aload_n 0, 1) := by decide +kernel
theorem dX9_joins_22 : decode cX9_joins 22 = .ok (.iload_n 1, 1) := by decide +kernel
theorem dX9_joins_23 : decode cX9_joins 23 = .ok (.iconst 3, 1) := by decide +kernel
theorem dX9_joins_24 : decode cX9_joins 24 = .ok (.iload_n 2, 1) := by decide +kernel
theorem dX9_joins_25 : decode cX9_joins 25 = .ok (.iadd, 1) := by decide +kernel
theorem dX9_joins_26 : decode cX9_joins 26 = .ok (.aload_n 0, 1) := by decide +kernel
theorem dX9_joins_27 : decode cX9_joins 27 = .ok (.iload_n 1, 1) := by decide +kernel
theorem dX9_joins_28 : decode cX9_joins 28 = .ok (.iconst 3, 1) := by decide +kernel
theorem dX9_joins_29 : decode cX9_joins 29 = .ok (.iload_n 2, 1) := by decide +kernel
theorem dX9_joins_30 : decode cX9_joins 30 = .ok (.iadd, 1) := by decide +kernel
theorem dX9_joins_31 : decode cX9_joins 31 = .ok (.invokevirtual 51, 3) := by decide +kernel
theorem dX9_joins_34 : decode cX9_joins 34 = .ok (.aload_n 0, 1) := by decide +kernel
theorem dX9_joins_35 : decode cX9_joins 35 = .ok (.iload_n 1, 1) := by decide +kernel
theorem dX9_joins_36 : decode cX9_joins 36 = .ok (.iconst 1, 1) := by decide +kernel
theorem dX9_joins_37 : decode cX9_joins 37 = .ok (.iadd, 1) := by decide +kernel
theorem dX9_joins_38 : decode cX9_joins 38 = .ok (.iconst 3, 1) := by decide +kernel
theorem dX9_joins_39 : decode cX9_joins 39 = .ok (.iload_n 2, 1) := by decide +kernel
theorem dX9_joins_40 : decode cX9_joins 40 = .ok (.iadd, 1) := by decide +kernel
theorem dX9_joins_41 : decode cX9_joins 41 = .ok (.invokevirtual 51, 3) := by decide +kernel
theorem dX9_joins_44 : decode cX9_joins 44 = .ok (.iadd, 1) := by decide +kernel
theorem dX9_joins_45 : decode cX9_joins 45 = .ok (.iconst 0, 1) := by decide +kernel
theorem dX9_joins_46 : decode cX9_joins 46 = .ok (.bipush 9, 2) := by decide +kernel
theorem dX9_joins_48 : decode cX9_joins 48 = .ok (.invokestatic 162, 3) := by decide +kernel
theorem dX9_joins_51 : decode cX9_joins 51 = .ok (.invokevirtual 73, 3) := by decide +kernel
theorem dX9_joins_54 : decode cX9_joins 54 = .ok (.aload_n 0, 1) := by decide +kernel
theorem dX9_joins_55 : decode cX9_joins 55 = .ok (.iload_n 1, 1) := by decide +kernel
theorem dX9_joins_56 : decode cX9_joins 56 = .ok (.bipush 9, 2) := by decide +kernel
theorem dX9_joins_58 : decode cX9_joins 58 = .ok (.iload_n 2, 1) := by decide +kernel
theorem dX9_joins_59 : decode cX9_joins 59 = .ok (.iadd, 1) := by decide +kernel
theorem dX9_joins_60 : decode cX9_joins 60 = .ok (.aload_n 0, 1) := by decide +kernel
theorem dX9_joins_61 : decode cX9_joins 61 = .ok (.iload_n 1, 1) := by decide +kernel
theorem dX9_joins_62 : decode cX9_joins 62 = .ok (.bipush 9, 2) := by decide +kernel
theorem dX9_joins_64 : decode cX9_joins 64 = .ok (.iload_n 2, 1) := by decide +kernel
theorem dX9_joins_65 : decode cX9_joins 65 = .ok (.iadd, 1) := by decide +kernel
theorem dX9_joins_66 : decode cX9_joins 66 = .ok (.invokevirtual 51, 3) := by decide +kernel
theorem dX9_joins_69 : decode cX9_joins 69 = .ok (.aload_n 0, 1) := by decide +kernel
theorem dX9_joins_70 : decode cX9_joins 70 = .ok (.iload_n 1, 1) := by decide +kernel
theorem dX9_joins_71 : decode cX9_joins 71 = .ok (.iconst 1, 1) := by decide +kernel
theorem dX9_joins_72 : decode cX9_joins 72 = .ok (.iadd, 1) := by decide +kernel
theorem dX9_joins_73 : decode cX9_joins 73 = .ok (.bipush 9, 2) := by decide +kernel
theorem dX9_joins_75 : decode cX9_joins 75 = .ok (.iload_n 2, 1) := by decide +kernel
theorem dX9_joins_76 : decode cX9_joins 76 = .ok (.iadd, 1) := by decide +kernel
theorem dX9_joins_77 : decode cX9_joins 77 = .ok (.invokevirtual 51, 3) := by decide +kernel
theorem dX9_joins_80 : decode cX9_joins 80 = .ok (.iadd, 1) := by decide +kernel
theorem dX9_joins_81 : decode cX9_joins 81 = .ok (.iconst 0, 1) := by decide +kernel
theorem dX9_joins_82 : decode cX9_joins 82 = .ok (.bipush 99, 2) := by decide +kernel
theorem dX9_joins_84 : decode cX9_joins 84 = .ok (.invokestatic 162, 3) := by decide +kernel
theorem dX9_joins_87 : decode cX9_joins 87 = .ok (.invokevirtual 73, 3) := by decide +kernel
theorem dX9_joins_90 : decode cX9_joins 90 = .ok (.iinc 2 1, 3) := by decide +kernel
theorem dX9_joins_93 : decode cX9_joins 93 = .ok (.goto (-78), 3) := by decide +kernel
theorem dX9_joins_96 : decode cX9_joins 96 = .ok (.iload_n 1, 1) := by decide +kernel
theorem dX9_joins_97 : decode cX9_joins 97 = .ok (.iconst 1, 1) := by decide +kernel
theorem dX9_joins_98 : decode cX9_joins 98 = .ok (.iadd, 1) := by decide +kernel
theorem dX9_joins_99 : decode cX9_joins 99 = .ok (.istore_n 2, 1) := by decide +kernel
theorem dX9_joins_100 : decode cX9_joins 100 = .ok (.iload_n 2, 1) := by decide +kernel
theorem dX9_joins_101 : decode cX9_joins 101 = .ok (.iconst 1, 1) := by decide +kernel
theorem dX9_joins_102 : decode cX9_joins 102 = .ok (.iadd, 1) := by decide +kernel
theorem dX9_joins_103 : decode cX9_joins 103 = .ok (.aload_n 0, 1) := by decide +kernel
theorem dX9_joins_104 : decode cX9_joins 104 = .ok (.getfield 7, 3) := by decide +kernel
theorem dX9_joins_107 : decode cX9_joins 107 = .ok (.iconst 0, 1) := by decide +kernel
theorem dX9_joins_108 : decode cX9_joins 108 = .ok (.iaload, 1) := by decide +kernel
theorem dX9_joins_109 : decode cX9_joins 109 = .ok (.if_icmp .ge 37, 3) := by decide +kernel
theorem dX9_joins_112 : decode cX9_joins 112 = .ok (.iconst 0, 1) := by decide +kernel
theorem dX9_joins_113 : decode cX9_joins 113 = .ok (.istore_n 3, 1) := by decide +kernel
theorem dX9_joins_114 : decode cX9_joins 114 = .ok (.iload_n 3, 1) := by decide +kernel
theorem dX9_joins_115 : decode cX9_joins 115 = .ok (.bipush 21, 2) := by decide +kernel
theorem dX9_joins_117 : decode cX9_joins 117 = .ok (.if_icmp .ge 23, 3) := by decide +kernel
theorem dX9_joins_120 : decode cX9_joins 120 = .ok (.aload_n 0, 1) := by decide +kernel
theorem dX9_joins_121 : decode cX9_joins 121 = .ok (.iload_n 2, 1) := by decide +kernel
theorem dX9_joins_122 : decode cX9_joins 122 = .ok (.iload_n 3, 1) := by decide +kernel
theorem dX9_joins_123 : decode cX9_joins 123 = .ok (.aload_n 0, 1) := by decide +kernel
theorem dX9_joins_124 : decode cX9_joins 124 = .ok (.iload_n 2, 1) := by decide +kernel
theorem dX9_joins_125 : decode cX9_joins 125 = .ok (.iconst 1, 1) := by decide +kernel
theorem dX9_joins_126 : decode cX9_joins 126 = .ok (.iadd, 1) := by decide +kernel
theorem dX9_joins_127 : decode cX9_joins 127 = .ok (.iload_n 3, 1) := by decide +kernel
theorem dX9_joins_128 : decode cX9_joins 128 = .ok (.invokevirtual 51, 3) := by decide +kernel
theorem dX9_joins_131 : decode cX9_joins 131 = .ok (.invokevirtual 73, 3) := by decide +kernel
theorem dX9_joins_134 : decode cX9_joins 134 = .ok (.iinc 3 1, 3) := by decide +kernel
theorem dX9_joins_137 : decode cX9_joins 137 = .ok (.goto (-23), 3) := by decide +kernel
theorem dX9_joins_140 : decode cX9_joins 140 = .ok (.iinc 2 1, 3) := by decide +kernel
theorem dX9_joins_143 : decode cX9_joins 143 = .ok (.goto (-43), 3) := by decide +kernel
theorem dX9_joins_146 : decode cX9_joins 146 = .ok (.aload_n 0, 1) := by decide +kernel
theorem dX9_joins_147 : decode cX9_joins 147 = .ok (.getfield 7, 3) := by decide +kernel
theorem dX9_joins_150 : decode cX9_joins 150 = .ok (.iconst 0, 1) := by decide +kernel
theorem dX9_joins_151 : decode cX9_joins 151 = .ok (.dup2, 1) := by decide +kernel
theorem dX9_joins_152 : decode cX9_joins 152 = .ok (.iaload, 1) := by decide +kernel
theorem dX9_joins_153 : decode cX9_joins 153 = .ok (.iconst 1, 1) := by decide +kernel
theorem dX9_joins_154 : decode cX9_joins 154 = .ok (.isub, 1) := by decide +kernel
theorem dX9_joins_155 : decode cX9_joins 155 = .ok (.iastore, 1) := by decide +kernel
theorem dX9_joins_156 : decode cX9_joins 156 = .ok (.return_, 1) := by decide +kernel
theorem dX9_joined__0 : decode cX9_joined_ 0 = .ok (.iload_n 1, 1) := by decide +kernel
theorem dX9_joined__1 : decode cX9_joined_ 1 = .ok (.iconst 0, 1) := by decide +kernel
theorem dX9_joined__2 : decode cX9_joined_ 2 = .ok (.aload_n 0, 1) := by decide +kernel
theorem dX9_joined__3 : decode cX9_joined_ 3 = .ok (.getfield 7, 3) := by decide +kernel
theorem dX9_joined__6 : decode cX9_joined_ 6 = .ok (.iconst 0, 1) := by decide +kernel
theorem dX9_joined__7 : decode cX9_joined_ 7 = .ok (.iaload, 1) := by decide +kernel
theorem dX9_joined__8 : decode cX9_joined_ 8 = .ok (.iconst 2, 1) := by decide +kernel
theorem dX9_joined__9 : decode cX9_joined_ 9 = .ok (.isub, 1) := by decide +kernel
theorem dX9_joined__10 : decode cX9_joined_ 10 = .ok (.invokestatic 47, 3) := by decide +kernel
theorem dX9_joined__13 : decode cX9_joined_ 13 = .ok (.ifCond .eq 13, 3) := by decide +kernel
theorem dX9_joined__16 : decode cX9_joined_ 16 = .ok (.iload_n 2, 1) := by decide +kernel
theorem dX9_joined__17 : decode cX9_joined_ 17 = .ok (.iconst 1, 1) := by decide +kernel
theorem dX9_joined__18 : decode cX9_joined_ 18 = .ok (.bipush 20, 2) := by decide +kernel
theorem dX9_joined__20 : decode cX9_joined_ 20 = .ok (.invokestatic 47, 3) := by decide +kernel
theorem dX9_joined__23 : decode cX9_joined_ 23 = .ok (.ifCond .ne 9, 3) := by decide +kernel
theorem dX9_joined__26 : decode cX9_joined_ 26 = .ok (.aload_n 0, 1) := by decide +kernel
theorem dX9_joined__27 : decode cX9_joined_ 27 = .ok (.iconst 1, 1) := by decide +kernel
theorem dX9_joined__28 : decode cX9_joined_ 28 = .ok (.invokevirtual 70, 3) := by decide +kernel
theorem dX9_joined__31 : decode cX9_joined_ 31 = .ok (.ireturn, 1) := by decide +kernel
theorem dX9_joined__32 : decode cX9_joined_ 32 = .ok (.aload_n 0, 1) := by decide +kernel
theorem dX9_joined__33 : decode cX9_joined_ 33 = .ok (.getfield 7, 3) := by decide +kernel
theorem dX9_joined__36 : decode cX9_joined_ 36 = .ok (.aload_n 0, 1) := by decide +kernel
theorem dX9_joined__37 : decode cX9_joined_ 37 = .ok (.getfield 16, 3) := by decide +kernel
theorem dX9_joined__40 : decode cX9_joined_ 40 = .ok (.invokestatic 215, 3) := by decide +kernel
theorem dX9_joined__43 : decode cX9_joined_ 43 = .ok (.aload_n 0, 1) := by decide +kernel
theorem dX9_joined__44 : decode cX9_joined_ 44 = .ok (.iload_n 2, 1) := by decide +kernel
theorem dX9_joined__45 : decode cX9_joined_ 45 = .ok (.invokevirtual 212, 3) := by decide +kernel
theorem dX9_joined__48 : decode cX9_joined_ 48 = .ok (.aload_n 0, 1) := by decide +kernel
theorem dX9_joined__49 : decode cX9_joined_ 49 = .ok (.iload_n 1, 1) := by decide +kernel
theorem dX9_joined__50 : decode cX9_joined_ 50 = .ok (.iconst 2, 1) := by decide +kernel
theorem dX9_joined__51 : decode cX9_joined_ 51 = .ok (.invokevirtual 51, 3) := by decide +kernel
theorem dX9_joined__54 : decode cX9_joined_ 54 = .ok (.aload_n 0, 1) := by decide +kernel
theorem dX9_joined__55 : decode cX9_joined_ 55 = .ok (.iload_n 1, 1) := by decide +kernel
theorem dX9_joined__56 : decode cX9_joined_ 56 = .ok (.iconst 1, 1) := by decide +kernel
theorem dX9_joined__57 : decode cX9_joined_ 57 = .ok (.iadd, 1) := by decide +kernel
theorem dX9_joined__58 : decode cX9_joined_ 58 = .ok (.iconst 2, 1) := by decide +kernel
theorem dX9_joined__59 : decode cX9_joined_ 59 = .ok (.invokevirtual 51, 3) := by decide +kernel
theorem dX9_joined__62 : decode cX9_joined_ 62 = .ok (.iadd, 1) := by decide +kernel
theorem dX9_joined__63 : decode cX9_joined_ 63 = .ok (.istore_n 3, 1) := by decide +kernel
theorem dX9_joined__64 : decode cX9_joined_ 64 = .ok (.aload_n 0, 1) := by decide +kernel
theorem dX9_joined__65 : decode cX9_joined_ 65 = .ok (.getfield 16, 3) := by decide +kernel
theorem dX9_joined__68 : decode cX9_joined_ 68 = .ok (.aload_n 0, 1) := by decide +kernel
theorem dX9_joined__69 : decode cX9_joined_ 69 = .ok (.getfield 7, 3) := by decide +kernel
theorem dX9_joined__72 : decode cX9_joined_ 72 = .ok (.invokestatic 215, 3) := by decide +kernel
theorem dX9_joined__75 : decode cX9_joined_ 75 = .ok (.aload_n 0, 1) := by decide +kernel
theorem dX9_joined__76 : decode cX9_joined_ 76 = .ok (.iload_n 1, 1) := by decide +kernel
theorem dX9_joined__77 : decode cX9_joined_ 77 = .ok (.invokevirtual 228, 3) := by decide +kernel
theorem dX9_joined__80 : decode cX9_joined_ 80 = .ok (.aload_n 0, 1) := by decide +kernel
theorem dX9_joined__81 : decode cX9_joined_ 81 = .ok (.iload_n 2, 1) := by decide +kernel
theorem dX9_joined__82 : decode cX9_joined_ 82 = .ok (.invokevirtual 212, 3) := by decide +kernel
theorem dX9_joined__85 : decode cX9_joined_ 85 = .ok (.aload_n 0, 1) := by decide +kernel
theorem dX9_joined__86 : decode cX9_joined_ 86 = .ok (.iload_n 1, 1) := by decide +kernel
theorem dX9_joined__87 : decode cX9_joined_ 87 = .ok (.iconst 2, 1) := by decide +kernel
theorem dX9_joined__88 : decode cX9_joined_ 88 = .ok (.invokevirtual 51, 3) := by decide +kernel
theorem dX9_joined__91 : decode cX9_joined_ 91 = .ok (.istore 4, 2) := by decide +kernel
theorem dX9_joined__93 : decode cX9_joined_ 93 = .ok (.aload_n 0, 1) := by decide +kernel
theorem dX9_joined__94 : decode cX9_joined_ 94 = .ok (.getfield 16, 3) := by decide +kernel
theorem dX9_joined__97 : decode cX9_joined_ 97 = .ok (.aload_n 0, 1) := by decide +kernel
theorem dX9_joined__98 : decode cX9_joined_ 98 = .ok (.getfield 7, 3) := by decide +kernel
theorem dX9_joined__101 : decode cX9_joined_ 101 = .ok (.invokestatic 215, 3) := by decide +kernel
theorem dX9_joined__104 : decode cX9_joined_ 104 = .ok (.iload 4, 2) := by decide +kernel
theorem dX9_joined__106 : decode cX9_joined_ 106 = .ok (.iload_n 3, 1) := by decide +kernel
theorem dX9_joined__107 : decode cX9_joined_ 107 = .ok (.isub, 1) := by decide +kernel
theorem dX9_joined__108 : decode cX9_joined_ 108 = .ok (.ireturn, 1) := by decide +kernel
theorem dX9_walk_0 : decode cX9_walk 0 = .ok (.aload_n 0, 1) := by decide +kernel
theorem dX9_walk_1 : decode cX9_walk 1 = .ok (.iload_n 1, 1) := by decide +kernel
theorem dX9_walk_2 : decode cX9_walk 2 = .ok (.invokevirtual 95, 3) := by decide +kernel
theorem dX9_walk_5 : decode cX9_walk 5 = .ok (.ifCond .ne 9, 3) := by decide +kernel
theorem dX9_walk_8 : decode cX9_walk 8 = .ok (.aload_n 0, 1) := by decide +kernel
theorem dX9_walk_9 : decode cX9_walk 9 = .ok (.iconst 1, 1) := by decide +kernel
theorem dX9_walk_10 : decode cX9_walk 10 = .ok (.invokevirtual 70, 3) := by decide +kernel
theorem dX9_walk_13 : decode cX9_walk 13 = .ok (.ireturn, 1) := by decide +kernel
theorem dX9_walk_14 : decode cX9_walk 14 = .ok (.aload_n 0, 1) := by decide +kernel
theorem dX9_walk_15 : decode cX9_walk 15 = .ok (.iload_n 1, 1) := by decide +kernel
theorem dX9_walk_16 : decode cX9_walk 16 = .ok (.iconst 0, 1) := by decide +kernel
theorem dX9_walk_17 : decode cX9_walk 17 = .ok (.invokevirtual 98, 3) := by decide +kernel
theorem dX9_walk_20 : decode cX9_walk 20 = .ok (.istore_n 2, 1) := by decide +kernel
theorem dX9_walk_21 : decode cX9_walk 21 = .ok (.iconst 0, 1) := by decide +kernel
theorem dX9_walk_22 : decode cX9_walk 22 = .ok (.istore_n 3, 1) := by decide +kernel
theorem dX9_walk_23 : decode cX9_walk 23 = .ok (.iload_n 2, 1) := by decide +kernel
theorem dX9_walk_24 : decode cX9_walk 24 = .ok (.ifCond .eq 34, 3) := by decide +kernel
theorem dX9_walk_27 : decode cX9_walk 27 = .ok (.iload_n 3, 1) := by decide +kernel
theorem dX9_walk_28 : decode cX9_walk 28 = .ok (.aload_n 0, 1) := by decide +kernel
theorem dX9_walk_29 : decode cX9_walk 29 = .ok (.getfield 7, 3) := by decide +kernel
theorem dX9_walk_32 : decode cX9_walk 32 = .ok (.iconst 0, 1) := by decide +kernel
theorem dX9_walk_33 : decode cX9_walk 33 = .ok (.iaload, 1) := by decide +kernel
theorem dX9_walk_34 : decode cX9_walk 34 = .ok (.if_icmp .ge 24, 3) := by decide +kernel
theorem dX9_walk_37 : decode cX9_walk 37 = .ok (.iload_n 2, 1) := by decide +kernel
theorem dX9_walk_38 : decode cX9_walk 38 = .ok (.aload_n 0, 1) := by decide +kernel
theorem dX9_walk_39 : decode cX9_walk 39 = .ok (.aload_n 0, 1) := by decide +kernel
theorem dX9_walk_40 : decode cX9_walk 40 = .ok (.iload_n 1, 1) := by decide +kernel
theorem dX9_walk_41 : decode cX9_walk 41 = .ok (.iload_n 3, 1) := by decide +kernel
theorem dX9_walk_42 : decode cX9_walk 42 = .ok (.invokevirtual 195, 3) := by decide +kernel
theorem dX9_walk_45 : decode cX9_walk 45 = .ok (.invokevirtual 77, 3) := by decide +kernel
theorem dX9_walk_48 : decode cX9_walk 48 = .ok (.iconst (-1), 1) := by decide +kernel
theorem dX9_walk_49 : decode cX9_walk 49 = .ok (.ixor, 1) := by decide +kernel
theorem dX9_walk_50 : decode cX9_walk 50 = .ok (.iand, 1) := by decide +kernel
theorem dX9_walk_51 : decode cX9_walk 51 = .ok (.istore_n 2, 1) := by decide +kernel
theorem dX9_walk_52 : decode cX9_walk 52 = .ok (.iinc 3 1, 3) := by decide +kernel
theorem dX9_walk_55 : decode cX9_walk 55 = .ok (.goto (-32), 3) := by decide +kernel
theorem dX9_walk_58 : decode cX9_walk 58 = .ok (.iload_n 2, 1) := by decide +kernel
theorem dX9_walk_59 : decode cX9_walk 59 = .ok (.ifCond .ne 7, 3) := by decide +kernel
theorem dX9_walk_62 : decode cX9_walk 62 = .ok (.iload_n 3, 1) := by decide +kernel
theorem dX9_walk_63 : decode cX9_walk 63 = .ok (.goto 8, 3) := by decide +kernel
theorem dX9_walk_66 : decode cX9_walk 66 = .ok (.aload_n 0, 1) := by decide +kernel
theorem dX9_walk_67 : decode cX9_walk 67 = .ok (.iconst 2, 1) := by decide +kernel
theorem dX9_walk_68 : decode cX9_walk 68 = .ok (.invokevirtual 70, 3) := by decide +kernel
theorem dX9_walk_71 : decode cX9_walk 71 = .ok (.ireturn, 1) := by decide +kernel
theorem dX9_begins_0 : decode cX9_begins 0 = .ok (.aload_n 0, 1) := by decide +kernel
theorem dX9_begins_1 : decode cX9_begins 1 = .ok (.getfield 231, 3) := by decide +kernel
theorem dX9_begins_4 : decode cX9_begins 4 = .ok (.bipush 30, 2) := by decide +kernel
theorem dX9_begins_6 : decode cX9_begins 6 = .ok (.if_icmp .ge 23, 3) := by decide +kernel
theorem dX9_begins_9 : decode cX9_begins 9 = .ok (.aload_n 0, 1) := by decide +kernel
theorem dX9_begins_10 : decode cX9_begins 10 = .ok (.getfield 31, 3) := by decide +kernel
theorem dX9_begins_13 : decode cX9_begins 13 = .ok (.aload_n 0, 1) := by decide +kernel
theorem dX9_begins_14 : decode cX9_begins 14 = .ok (.getfield 231, 3) := by decide +kernel
theorem dX9_begins_17 : decode cX9_begins 17 = .ok (.iload_n 1, 1) := by decide +kernel
theorem dX9_begins_18 : decode cX9_begins 18 = .ok (.iastore, 1) := by decide +kernel
theorem dX9_begins_19 : decode cX9_begins 19 = .ok (.aload_n 0, 1) := by decide +kernel
theorem dX9_begins_20 : decode cX9_begins 20 = .ok (.dup, 1) := by decide +kernel
theorem dX9_begins_21 : decode cX9_begins 21 = .ok (.getfield 231, 3) := by decide +kernel
theorem dX9_begins_24 : decode cX9_begins 24 = .ok (.iconst 1, 1) := by decide +kernel
theorem dX9_begins_25 : decode cX9_begins 25 = .ok (.iadd, 1) := by decide +kernel
theorem dX9_begins_26 : decode cX9_begins 26 = .ok (.putfield 231, 3) := by decide +kernel
theorem dX9_begins_29 : decode cX9_begins 29 = .ok (.return_, 1) := by decide +kernel
theorem dX9_above_0 : decode cX9_above 0 = .ok (.iload_n 0, 1) := by decide +kernel
theorem dX9_above_1 : decode cX9_above 1 = .ok (.iconst 4, 1) := by decide +kernel
theorem dX9_above_2 : decode cX9_above 2 = .ok (.if_icmp .ne 7, 3) := by decide +kernel
theorem dX9_above_5 : decode cX9_above 5 = .ok (.iconst 1, 1) := by decide +kernel
theorem dX9_above_6 : decode cX9_above 6 = .ok (.goto 13, 3) := by decide +kernel
theorem dX9_above_9 : decode cX9_above 9 = .ok (.iload_n 0, 1) := by decide +kernel
theorem dX9_above_10 : decode cX9_above 10 = .ok (.iconst 5, 1) := by decide +kernel
theorem dX9_above_11 : decode cX9_above 11 = .ok (.if_icmp .ne 7, 3) := by decide +kernel
theorem dX9_above_14 : decode cX9_above 14 = .ok (.iconst 2, 1) := by decide +kernel
theorem dX9_above_15 : decode cX9_above 15 = .ok (.goto 4, 3) := by decide +kernel
theorem dX9_above_18 : decode cX9_above 18 = .ok (.iconst 0, 1) := by decide +kernel
theorem dX9_above_19 : decode cX9_above 19 = .ok (.ireturn, 1) := by decide +kernel
theorem dX9_kindNow_0 : decode cX9_kindNow 0 = .ok (.aload_n 0, 1) := by decide +kernel
theorem dX9_kindNow_1 : decode cX9_kindNow 1 = .ok (.aload_n 0, 1) := by decide +kernel
theorem dX9_kindNow_2 : decode cX9_kindNow 2 = .ok (.getfield 234, 3) := by decide +kernel
theorem dX9_kindNow_5 : decode cX9_kindNow 5 = .ok (.iconst 0, 1) := by decide +kernel
theorem dX9_kindNow_6 : decode cX9_kindNow 6 = .ok (.invokevirtual 51, 3) := by decide +kernel
theorem dX9_kindNow_9 : decode cX9_kindNow 9 = .ok (.ireturn, 1) := by decide +kernel
theorem dX9_mNow_0 : decode cX9_mNow 0 = .ok (.aload_n 0, 1) := by decide +kernel
theorem dX9_mNow_1 : decode cX9_mNow 1 = .ok (.aload_n 0, 1) := by decide +kernel
theorem dX9_mNow_2 : decode cX9_mNow 2 = .ok (.getfield 234, 3) := by decide +kernel
theorem dX9_mNow_5 : decode cX9_mNow 5 = .ok (.iconst 1, 1) := by decide +kernel
theorem dX9_mNow_6 : decode cX9_mNow 6 = .ok (.invokevirtual 51, 3) := by decide +kernel
theorem dX9_mNow_9 : decode cX9_mNow 9 = .ok (.ireturn, 1) := by decide +kernel
theorem dX9_sellsBy_0 : decode cX9_sellsBy 0 = .ok (.iload_n 1, 1) := by decide +kernel
theorem dX9_sellsBy_1 : decode cX9_sellsBy 1 = .ok (.tableswitch 100 0 6 #[43, 56, 100, 100, 74, 100, 92], 43) := by decide +kernel
theorem dX9_sellsBy_44 : decode cX9_sellsBy 44 = .ok (.aload_n 0, 1) := by decide +kernel
theorem dX9_sellsBy_45 : decode cX9_sellsBy 45 = .ok (.bipush 10, 2) := by decide +kernel
theorem dX9_sellsBy_47 : decode cX9_sellsBy 47 = .ok (.invokevirtual 237, 3) := by decide +kernel
theorem dX9_sellsBy_50 : decode cX9_sellsBy 50 = .ok (.iload_n 2, 1) := by decide +kernel
theorem dX9_sellsBy_51 : decode cX9_sellsBy 51 = .ok (.aload_n 0, 1) := by decide +kernel
theorem dX9_sellsBy_52 : decode cX9_sellsBy 52 = .ok (.getfield 234, 3) := by decide +kernel
theorem dX9_sellsBy_55 : decode cX9_sellsBy 55 = .ok (.iadd, 1) := by decide +kernel
theorem dX9_sellsBy_56 : decode cX9_sellsBy 56 = .ok (.ireturn, 1) := by decide +kernel
theorem dX9_sellsBy_57 : decode cX9_sellsBy 57 = .ok (.aload_n 0, 1) := by decide +kernel
theorem dX9_sellsBy_58 : decode cX9_sellsBy 58 = .ok (.bipush 20, 2) := by decide +kernel
theorem dX9_sellsBy_60 : decode cX9_sellsBy 60 = .ok (.invokevirtual 237, 3) := by decide +kernel
theorem dX9_sellsBy_63 : decode cX9_sellsBy 63 = .ok (.aload_n 0, 1) := by decide +kernel
theorem dX9_sellsBy_64 : decode cX9_sellsBy 64 = .ok (.iconst 1, 1) := by decide +kernel
theorem dX9_sellsBy_65 : decode cX9_sellsBy 65 = .ok (.invokestatic 240, 3) := by decide +kernel
theorem dX9_sellsBy_68 : decode cX9_sellsBy 68 = .ok (.iload_n 2, 1) := by decide +kernel
theorem dX9_sellsBy_69 : decode cX9_sellsBy 69 = .ok (.invokevirtual 243, 3) := by decide +kernel
theorem dX9_sellsBy_72 : decode cX9_sellsBy 72 = .ok (.iconst 4, 1) := by decide +kernel
theorem dX9_sellsBy_73 : decode cX9_sellsBy 73 = .ok (.isub, 1) := by decide +kernel
theorem dX9_sellsBy_74 : decode cX9_sellsBy 74 = .ok (.ireturn, 1) := by decide +kernel
theorem dX9_sellsBy_75 : decode cX9_sellsBy 75 = .ok (.aload_n 0, 1) := by decide +kernel
theorem dX9_sellsBy_76 : decode cX9_sellsBy 76 = .ok (.bipush 50, 2) := by decide +kernel
theorem dX9_sellsBy_78 : decode cX9_sellsBy 78 = .ok (.invokevirtual 237, 3) := by decide +kernel
theorem dX9_sellsBy_81 : decode cX9_sellsBy 81 = .ok (.aload_n 0, 1) := by decide +kernel
theorem dX9_sellsBy_82 : decode cX9_sellsBy 82 = .ok (.iconst 4, 1) := by decide +kernel
theorem dX9_sellsBy_83 : decode cX9_sellsBy 83 = .ok (.invokestatic 240, 3) := by decide +kernel
theorem dX9_sellsBy_86 : decode cX9_sellsBy 86 = .ok (.iload_n 2, 1) := by decide +kernel
theorem dX9_sellsBy_87 : decode cX9_sellsBy 87 = .ok (.invokevirtual 243, 3) := by decide +kernel
theorem dX9_sellsBy_90 : decode cX9_sellsBy 90 = .ok (.iconst 3, 1) := by decide +kernel
theorem dX9_sellsBy_91 : decode cX9_sellsBy 91 = .ok (.imul, 1) := by decide +kernel
theorem dX9_sellsBy_92 : decode cX9_sellsBy 92 = .ok (.ireturn, 1) := by decide +kernel
theorem dX9_sellsBy_93 : decode cX9_sellsBy 93 = .ok (.aload_n 0, 1) := by decide +kernel
theorem dX9_sellsBy_94 : decode cX9_sellsBy 94 = .ok (.bipush 70, 2) := by decide +kernel
theorem dX9_sellsBy_96 : decode cX9_sellsBy 96 = .ok (.invokevirtual 237, 3) := by decide +kernel
theorem dX9_sellsBy_99 : decode cX9_sellsBy 99 = .ok (.iconst 2, 1) := by decide +kernel
theorem dX9_sellsBy_100 : decode cX9_sellsBy 100 = .ok (.ireturn, 1) := by decide +kernel
theorem dX9_sellsBy_101 : decode cX9_sellsBy 101 = .ok (.aload_n 0, 1) := by decide +kernel
theorem dX9_sellsBy_102 : decode cX9_sellsBy 102 = .ok (.iload_n 1, 1) := by decide +kernel
theorem dX9_sellsBy_103 : decode cX9_sellsBy 103 = .ok (.invokestatic 240, 3) := by decide +kernel
theorem dX9_sellsBy_106 : decode cX9_sellsBy 106 = .ok (.iload_n 2, 1) := by decide +kernel
theorem dX9_sellsBy_107 : decode cX9_sellsBy 107 = .ok (.invokevirtual 243, 3) := by decide +kernel
theorem dX9_sellsBy_110 : decode cX9_sellsBy 110 = .ok (.ireturn, 1) := by decide +kernel
theorem dX9_fillsBy_0 : decode cX9_fillsBy 0 = .ok (.iload_n 1, 1) := by decide +kernel
theorem dX9_fillsBy_1 : decode cX9_fillsBy 1 = .ok (.tableswitch 119 0 6 #[43, 119, 61, 119, 119, 79, 97], 43) := by decide +kernel
theorem dX9_fillsBy_44 : decode cX9_fillsBy 44 = .ok (.aload_n 0, 1) := by decide +kernel
theorem dX9_fillsBy_45 : decode cX9_fillsBy 45 = .ok (.bipush 11, 2) := by decide +kernel
theorem dX9_fillsBy_47 : decode cX9_fillsBy 47 = .ok (.invokevirtual 237, 3) := by decide +kernel
theorem dX9_fillsBy_50 : decode cX9_fillsBy 50 = .ok (.aload_n 0, 1) := by decide +kernel
theorem dX9_fillsBy_51 : decode cX9_fillsBy 51 = .ok (.aload_n 0, 1) := by decide +kernel
theorem dX9_fillsBy_52 : decode cX9_fillsBy 52 = .ok (.invokevirtual 246, 3) := by decide +kernel
theorem dX9_fillsBy_55 : decode cX9_fillsBy 55 = .ok (.iload_n 2, 1) := by decide +kernel
theorem dX9_fillsBy_56 : decode cX9_fillsBy 56 = .ok (.invokevirtual 243, 3) := by decide +kernel
theorem dX9_fillsBy_59 : decode cX9_fillsBy 59 = .ok (.iconst 2, 1) := by decide +kernel
theorem dX9_fillsBy_60 : decode cX9_fillsBy 60 = .ok (.imul, 1) := by decide +kernel
theorem dX9_fillsBy_61 : decode cX9_fillsBy 61 = .ok (.ireturn, 1) := by decide +kernel
theorem dX9_fillsBy_62 : decode cX9_fillsBy 62 = .ok (.aload_n 0, 1) := by decide +kernel
theorem dX9_fillsBy_63 : decode cX9_fillsBy 63 = .ok (.bipush 30, 2) := by decide +kernel
theorem dX9_fillsBy_65 : decode cX9_fillsBy 65 = .ok (.invokevirtual 237, 3) := by decide +kernel
theorem dX9_fillsBy_68 : decode cX9_fillsBy 68 = .ok (.iconst 0, 1) := by decide +kernel
theorem dX9_fillsBy_69 : decode cX9_fillsBy 69 = .ok (.aload_n 0, 1) := by decide +kernel
theorem dX9_fillsBy_70 : decode cX9_fillsBy 70 = .ok (.iconst 2, 1) := by decide +kernel
theorem dX9_fillsBy_71 : decode cX9_fillsBy 71 = .ok (.invokestatic 240, 3) := by decide +kernel
theorem dX9_fillsBy_74 : decode cX9_fillsBy 74 = .ok (.iload_n 2, 1) := by decide +kernel
theorem dX9_fillsBy_75 : decode cX9_fillsBy 75 = .ok (.invokevirtual 249, 3) := by decide +kernel
theorem dX9_fillsBy_78 : decode cX9_fillsBy 78 = .ok (.isub, 1) := by decide +kernel
theorem dX9_fillsBy_79 : decode cX9_fillsBy 79 = .ok (.ireturn, 1) := by decide +kernel
theorem dX9_fillsBy_80 : decode cX9_fillsBy 80 = .ok (.aload_n 0, 1) := by decide +kernel
theorem dX9_fillsBy_81 : decode cX9_fillsBy 81 = .ok (.bipush 60, 2) := by decide +kernel
theorem dX9_fillsBy_83 : decode cX9_fillsBy 83 = .ok (.invokevirtual 237, 3) := by decide +kernel
theorem dX9_fillsBy_86 : decode cX9_fillsBy 86 = .ok (.aload_n 0, 1) := by decide +kernel
theorem dX9_fillsBy_87 : decode cX9_fillsBy 87 = .ok (.iconst 5, 1) := by decide +kernel
theorem dX9_fillsBy_88 : decode cX9_fillsBy 88 = .ok (.invokestatic 240, 3) := by decide +kernel
theorem dX9_fillsBy_91 : decode cX9_fillsBy 91 = .ok (.iload_n 2, 1) := by decide +kernel
theorem dX9_fillsBy_92 : decode cX9_fillsBy 92 = .ok (.iconst 1, 1) := by decide +kernel
theorem dX9_fillsBy_93 : decode cX9_fillsBy 93 = .ok (.iadd, 1) := by decide +kernel
theorem dX9_fillsBy_94 : decode cX9_fillsBy 94 = .ok (.invokevirtual 249, 3) := by decide +kernel
theorem dX9_fillsBy_97 : decode cX9_fillsBy 97 = .ok (.ireturn, 1) := by decide +kernel
theorem dX9_fillsBy_98 : decode cX9_fillsBy 98 = .ok (.aload_n 0, 1) := by decide +kernel
theorem dX9_fillsBy_99 : decode cX9_fillsBy 99 = .ok (.bipush 71, 2) := by decide +kernel
theorem dX9_fillsBy_101 : decode cX9_fillsBy 101 = .ok (.invokevirtual 237, 3) := by decide +kernel
theorem dX9_fillsBy_104 : decode cX9_fillsBy 104 = .ok (.aload_n 0, 1) := by decide +kernel
theorem dX9_fillsBy_105 : decode cX9_fillsBy 105 = .ok (.bipush 6, 2) := by decide +kernel
theorem dX9_fillsBy_107 : decode cX9_fillsBy 107 = .ok (.invokestatic 240, 3) := by decide +kernel
theorem dX9_fillsBy_110 : decode cX9_fillsBy 110 = .ok (.iload_n 2, 1) := by decide +kernel
theorem dX9_fillsBy_111 : decode cX9_fillsBy 111 = .ok (.invokevirtual 249, 3) := by decide +kernel
theorem dX9_fillsBy_114 : decode cX9_fillsBy 114 = .ok (.aload_n 0, 1) := by decide +kernel
theorem dX9_fillsBy_115 : decode cX9_fillsBy 115 = .ok (.invokevirtual 252, 3) := by decide +kernel
theorem dX9_fillsBy_118 : decode cX9_fillsBy 118 = .ok (.iadd, 1) := by decide +kernel
theorem dX9_fillsBy_119 : decode cX9_fillsBy 119 = .ok (.ireturn, 1) := by decide +kernel
theorem dX9_fillsBy_120 : decode cX9_fillsBy 120 = .ok (.aload_n 0, 1) := by decide +kernel
theorem dX9_fillsBy_121 : decode cX9_fillsBy 121 = .ok (.iload_n 1, 1) := by decide +kernel
theorem dX9_fillsBy_122 : decode cX9_fillsBy 122 = .ok (.invokestatic 240, 3) := by decide +kernel
theorem dX9_fillsBy_125 : decode cX9_fillsBy 125 = .ok (.iload_n 2, 1) := by decide +kernel
theorem dX9_fillsBy_126 : decode cX9_fillsBy 126 = .ok (.invokevirtual 249, 3) := by decide +kernel
theorem dX9_fillsBy_129 : decode cX9_fillsBy 129 = .ok (.ireturn, 1) := by decide +kernel
theorem dX9_owesBy_0 : decode cX9_owesBy 0 = .ok (.iload_n 1, 1) := by decide +kernel
theorem dX9_owesBy_1 : decode cX9_owesBy 1 = .ok (.tableswitch 95 0 4 #[35, 95, 95, 56, 74], 35) := by decide +kernel
theorem dX9_owesBy_36 : decode cX9_owesBy 36 = .ok (.aload_n 0, 1) := by decide +kernel
theorem dX9_owesBy_37 : decode cX9_owesBy 37 = .ok (.bipush 12, 2) := by decide +kernel
theorem dX9_owesBy_39 : decode cX9_owesBy 39 = .ok (.invokevirtual 237, 3) := by decide +kernel
theorem dX9_owesBy_42 : decode cX9_owesBy 42 = .ok (.aload_n 0, 1) := by decide +kernel
theorem dX9_owesBy_43 : decode cX9_owesBy 43 = .ok (.aload_n 0, 1) := by decide +kernel
theorem dX9_owesBy_44 : decode cX9_owesBy 44 = .ok (.invokevirtual 246, 3) := by decide +kernel
theorem dX9_owesBy_47 : decode cX9_owesBy 47 = .ok (.iload_n 2, 1) := by decide +kernel
theorem dX9_owesBy_48 : decode cX9_owesBy 48 = .ok (.invokevirtual 249, 3) := by decide +kernel
theorem dX9_owesBy_51 : decode cX9_owesBy 51 = .ok (.aload_n 0, 1) := by decide +kernel
theorem dX9_owesBy_52 : decode cX9_owesBy 52 = .ok (.invokevirtual 252, 3) := by decide +kernel
theorem dX9_owesBy_55 : decode cX9_owesBy 55 = .ok (.isub, 1) := by decide +kernel
theorem dX9_owesBy_56 : decode cX9_owesBy 56 = .ok (.ireturn, 1) := by decide +kernel
theorem dX9_owesBy_57 : decode cX9_owesBy 57 = .ok (.aload_n 0, 1) := by decide +kernel
theorem dX9_owesBy_58 : decode cX9_owesBy 58 = .ok (.bipush 40, 2) := by decide +kernel
theorem dX9_owesBy_60 : decode cX9_owesBy 60 = .ok (.invokevirtual 237, 3) := by decide +kernel
theorem dX9_owesBy_63 : decode cX9_owesBy 63 = .ok (.aload_n 0, 1) := by decide +kernel
theorem dX9_owesBy_64 : decode cX9_owesBy 64 = .ok (.iconst 3, 1) := by decide +kernel
theorem dX9_owesBy_65 : decode cX9_owesBy 65 = .ok (.invokestatic 240, 3) := by decide +kernel
theorem dX9_owesBy_68 : decode cX9_owesBy 68 = .ok (.iload_n 2, 1) := by decide +kernel
theorem dX9_owesBy_69 : decode cX9_owesBy 69 = .ok (.iconst 2, 1) := by decide +kernel
theorem dX9_owesBy_70 : decode cX9_owesBy 70 = .ok (.idiv, 1) := by decide +kernel
theorem dX9_owesBy_71 : decode cX9_owesBy 71 = .ok (.invokevirtual 255, 3) := by decide +kernel
theorem dX9_owesBy_74 : decode cX9_owesBy 74 = .ok (.ireturn, 1) := by decide +kernel
theorem dX9_owesBy_75 : decode cX9_owesBy 75 = .ok (.aload_n 0, 1) := by decide +kernel
theorem dX9_owesBy_76 : decode cX9_owesBy 76 = .ok (.bipush 51, 2) := by decide +kernel
theorem dX9_owesBy_78 : decode cX9_owesBy 78 = .ok (.invokevirtual 237, 3) := by decide +kernel
theorem dX9_owesBy_81 : decode cX9_owesBy 81 = .ok (.aload_n 0, 1) := by decide +kernel
theorem dX9_owesBy_82 : decode cX9_owesBy 82 = .ok (.iconst 4, 1) := by decide +kernel
theorem dX9_owesBy_83 : decode cX9_owesBy 83 = .ok (.invokestatic 240, 3) := by decide +kernel
theorem dX9_owesBy_86 : decode cX9_owesBy 86 = .ok (.iload_n 2, 1) := by decide +kernel
theorem dX9_owesBy_87 : decode cX9_owesBy 87 = .ok (.invokevirtual 255, 3) := by decide +kernel
theorem dX9_owesBy_90 : decode cX9_owesBy 90 = .ok (.aload_n 0, 1) := by decide +kernel
theorem dX9_owesBy_91 : decode cX9_owesBy 91 = .ok (.getfield 234, 3) := by decide +kernel
theorem dX9_owesBy_94 : decode cX9_owesBy 94 = .ok (.ixor, 1) := by decide +kernel
theorem dX9_owesBy_95 : decode cX9_owesBy 95 = .ok (.ireturn, 1) := by decide +kernel
theorem dX9_owesBy_96 : decode cX9_owesBy 96 = .ok (.aload_n 0, 1) := by decide +kernel
theorem dX9_owesBy_97 : decode cX9_owesBy 97 = .ok (.iload_n 1, 1) := by decide +kernel
theorem dX9_owesBy_98 : decode cX9_owesBy 98 = .ok (.invokestatic 240, 3) := by decide +kernel
theorem dX9_owesBy_101 : decode cX9_owesBy 101 = .ok (.iload_n 2, 1) := by decide +kernel
theorem dX9_owesBy_102 : decode cX9_owesBy 102 = .ok (.invokevirtual 255, 3) := by decide +kernel
theorem dX9_owesBy_105 : decode cX9_owesBy 105 = .ok (.ireturn, 1) := by decide +kernel
theorem dX9_partsBy_0 : decode cX9_partsBy 0 = .ok (.iload_n 1, 1) := by decide +kernel
theorem dX9_partsBy_1 : decode cX9_partsBy 1 = .ok (.lookupswitch 119 #[(0, 27), (1, 78)], 27) := by decide +kernel
theorem dX9_partsBy_28 : decode cX9_partsBy 28 = .ok (.aload_n 0, 1) := by decide +kernel
theorem dX9_partsBy_29 : decode cX9_partsBy 29 = .ok (.bipush 13, 2) := by decide +kernel
theorem dX9_partsBy_31 : decode cX9_partsBy 31 = .ok (.invokevirtual 237, 3) := by decide +kernel
theorem dX9_partsBy_34 : decode cX9_partsBy 34 = .ok (.aload_n 0, 1) := by decide +kernel
theorem dX9_partsBy_35 : decode cX9_partsBy 35 = .ok (.invokevirtual 252, 3) := by decide +kernel
theorem dX9_partsBy_38 : decode cX9_partsBy 38 = .ok (.aload_n 0, 1) := by decide +kernel
theorem dX9_partsBy_39 : decode cX9_partsBy 39 = .ok (.getfield 234, 3) := by decide +kernel
theorem dX9_partsBy_42 : decode cX9_partsBy 42 = .ok (.isub, 1) := by decide +kernel
theorem dX9_partsBy_43 : decode cX9_partsBy 43 = .ok (.istore_n 3, 1) := by decide +kernel
theorem dX9_partsBy_44 : decode cX9_partsBy 44 = .ok (.aload_n 0, 1) := by decide +kernel
theorem dX9_partsBy_45 : decode cX9_partsBy 45 = .ok (.iload_n 3, 1) := by decide +kernel
theorem dX9_partsBy_46 : decode cX9_partsBy 46 = .ok (.ifCond .ne 7, 3) := by decide +kernel
theorem dX9_partsBy_49 : decode cX9_partsBy 49 = .ok (.iconst 1, 1) := by decide +kernel
theorem dX9_partsBy_50 : decode cX9_partsBy 50 = .ok (.goto 4, 3) := by decide +kernel
theorem dX9_partsBy_53 : decode cX9_partsBy 53 = .ok (.iconst 0, 1) := by decide +kernel
theorem dX9_partsBy_54 : decode cX9_partsBy 54 = .ok (.putfield 258, 3) := by decide +kernel
theorem dX9_partsBy_57 : decode cX9_partsBy 57 = .ok (.iload_n 3, 1) := by decide +kernel
theorem dX9_partsBy_58 : decode cX9_partsBy 58 = .ok (.ifCond .ne 7, 3) := by decide +kernel
theorem dX9_partsBy_61 : decode cX9_partsBy 61 = .ok (.iconst 0, 1) := by decide +kernel
theorem dX9_partsBy_62 : decode cX9_partsBy 62 = .ok (.goto 16, 3) := by decide +kernel
theorem dX9_partsBy_65 : decode cX9_partsBy 65 = .ok (.iload_n 3, 1) := by decide +kernel
theorem dX9_partsBy_66 : decode cX9_partsBy 66 = .ok (.iconst (-1), 1) := by decide +kernel
theorem dX9_partsBy_67 : decode cX9_partsBy 67 = .ok (.if_icmp .ne 8, 3) := by decide +kernel
theorem dX9_partsBy_70 : decode cX9_partsBy 70 = .ok (.iload_n 2, 1) := by decide +kernel
theorem dX9_partsBy_71 : decode cX9_partsBy 71 = .ok (.ineg, 1) := by decide +kernel
theorem dX9_partsBy_72 : decode cX9_partsBy 72 = .ok (.goto 6, 3) := by decide +kernel
theorem dX9_partsBy_75 : decode cX9_partsBy 75 = .ok (.iload_n 2, 1) := by decide +kernel
theorem dX9_partsBy_76 : decode cX9_partsBy 76 = .ok (.iload_n 3, 1) := by decide +kernel
theorem dX9_partsBy_77 : decode cX9_partsBy 77 = .ok (.idiv, 1) := by decide +kernel
theorem dX9_partsBy_78 : decode cX9_partsBy 78 = .ok (.ireturn, 1) := by decide +kernel
theorem dX9_partsBy_79 : decode cX9_partsBy 79 = .ok (.aload_n 0, 1) := by decide +kernel
theorem dX9_partsBy_80 : decode cX9_partsBy 80 = .ok (.bipush 21, 2) := by decide +kernel
theorem dX9_partsBy_82 : decode cX9_partsBy 82 = .ok (.invokevirtual 237, 3) := by decide +kernel
theorem dX9_partsBy_85 : decode cX9_partsBy 85 = .ok (.aload_n 0, 1) := by decide +kernel
theorem dX9_partsBy_86 : decode cX9_partsBy 86 = .ok (.iconst 1, 1) := by decide +kernel
theorem dX9_partsBy_87 : decode cX9_partsBy 87 = .ok (.invokestatic 240, 3) := by decide +kernel
theorem dX9_partsBy_90 : decode cX9_partsBy 90 = .ok (.iload_n 2, 1) := by decide +kernel
theorem dX9_partsBy_91 : decode cX9_partsBy 91 = .ok (.invokevirtual 262, 3) := by decide +kernel
theorem dX9_partsBy_94 : decode cX9_partsBy 94 = .ok (.istore 4, 2) := by decide +kernel
theorem dX9_partsBy_96 : decode cX9_partsBy 96 = .ok (.aload_n 0, 1) := by decide +kernel
theorem dX9_partsBy_97 : decode cX9_partsBy 97 = .ok (.getfield 258, 3) := by decide +kernel
theorem dX9_partsBy_100 : decode cX9_partsBy 100 = .ok (.ifCond .eq 7, 3) := by decide +kernel
theorem dX9_partsBy_103 : decode cX9_partsBy 103 = .ok (.iconst 0, 1) := by decide +kernel
theorem dX9_partsBy_104 : decode cX9_partsBy 104 = .ok (.goto 15, 3) := by decide +kernel
theorem dX9_partsBy_107 : decode cX9_partsBy 107 = .ok (.iload 4, 2) := by decide +kernel
theorem dX9_partsBy_109 : decode cX9_partsBy 109 = .ok (.aload_n 0, 1) := by decide +kernel
theorem dX9_partsBy_110 : decode cX9_partsBy 110 = .ok (.aload_n 0, 1) := by decide +kernel
theorem dX9_partsBy_111 : decode cX9_partsBy 111 = .ok (.invokevirtual 246, 3) := by decide +kernel
theorem dX9_partsBy_114 : decode cX9_partsBy 114 = .ok (.iconst 1, 1) := by decide +kernel
theorem dX9_partsBy_115 : decode cX9_partsBy 115 = .ok (.invokevirtual 249, 3) := by decide +kernel
theorem dX9_partsBy_118 : decode cX9_partsBy 118 = .ok (.iadd, 1) := by decide +kernel
theorem dX9_partsBy_119 : decode cX9_partsBy 119 = .ok (.ireturn, 1) := by decide +kernel
theorem dX9_partsBy_120 : decode cX9_partsBy 120 = .ok (.aload_n 0, 1) := by decide +kernel
theorem dX9_partsBy_121 : decode cX9_partsBy 121 = .ok (.iload_n 1, 1) := by decide +kernel
theorem dX9_partsBy_122 : decode cX9_partsBy 122 = .ok (.invokestatic 240, 3) := by decide +kernel
theorem dX9_partsBy_125 : decode cX9_partsBy 125 = .ok (.iload_n 2, 1) := by decide +kernel
theorem dX9_partsBy_126 : decode cX9_partsBy 126 = .ok (.invokevirtual 262, 3) := by decide +kernel
theorem dX9_partsBy_129 : decode cX9_partsBy 129 = .ok (.ireturn, 1) := by decide +kernel
theorem dX9_voice_0 : decode cX9_voice 0 = .ok (.aload_n 0, 1) := by decide +kernel
theorem dX9_voice_1 : decode cX9_voice 1 = .ok (.iload_n 1, 1) := by decide +kernel
theorem dX9_voice_2 : decode cX9_voice 2 = .ok (.invokevirtual 80, 3) := by decide +kernel
theorem dX9_voice_5 : decode cX9_voice 5 = .ok (.ifCond .eq 12, 3) := by decide +kernel
theorem dX9_voice_8 : decode cX9_voice 8 = .ok (.iload_n 2, 1) := by decide +kernel
theorem dX9_voice_9 : decode cX9_voice 9 = .ok (.iconst 0, 1) := by decide +kernel
theorem dX9_voice_10 : decode cX9_voice 10 = .ok (.iconst 3, 1) := by decide +kernel
theorem dX9_voice_11 : decode cX9_voice 11 = .ok (.invokestatic 47, 3) := by decide +kernel
theorem dX9_voice_14 : decode cX9_voice 14 = .ok (.ifCond .ne 9, 3) := by decide +kernel
theorem dX9_voice_17 : decode cX9_voice 17 = .ok (.aload_n 0, 1) := by decide +kernel
theorem dX9_voice_18 : decode cX9_voice 18 = .ok (.iconst 1, 1) := by decide +kernel
theorem dX9_voice_19 : decode cX9_voice 19 = .ok (.invokevirtual 70, 3) := by decide +kernel
theorem dX9_voice_22 : decode cX9_voice 22 = .ok (.ireturn, 1) := by decide +kernel
theorem dX9_voice_23 : decode cX9_voice 23 = .ok (.aload_n 0, 1) := by decide +kernel
theorem dX9_voice_24 : decode cX9_voice 24 = .ok (.iconst 0, 1) := by decide +kernel
theorem dX9_voice_25 : decode cX9_voice 25 = .ok (.putfield 231, 3) := by decide +kernel
theorem dX9_voice_28 : decode cX9_voice 28 = .ok (.aload_n 0, 1) := by decide +kernel
theorem dX9_voice_29 : decode cX9_voice 29 = .ok (.iload_n 1, 1) := by decide +kernel
theorem dX9_voice_30 : decode cX9_voice 30 = .ok (.putfield 234, 3) := by decide +kernel
theorem dX9_voice_33 : decode cX9_voice 33 = .ok (.aload_n 0, 1) := by decide +kernel
theorem dX9_voice_34 : decode cX9_voice 34 = .ok (.iconst 0, 1) := by decide +kernel
theorem dX9_voice_35 : decode cX9_voice 35 = .ok (.putfield 258, 3) := by decide +kernel
theorem dX9_voice_38 : decode cX9_voice 38 = .ok (.aload_n 0, 1) := by decide +kernel
theorem dX9_voice_39 : decode cX9_voice 39 = .ok (.invokevirtual 246, 3) := by decide +kernel
theorem dX9_voice_42 : decode cX9_voice 42 = .ok (.istore 4, 2) := by decide +kernel
theorem dX9_voice_44 : decode cX9_voice 44 = .ok (.iload_n 2, 1) := by decide +kernel
theorem dX9_voice_45 : decode cX9_voice 45 = .ok (.ifCond .ne 13, 3) := by decide +kernel
theorem dX9_voice_48 : decode cX9_voice 48 = .ok (.aload_n 0, 1) := by decide +kernel
theorem dX9_voice_49 : decode cX9_voice 49 = .ok (.iload 4, 2) := by decide +kernel
theorem dX9_voice_51 : decode cX9_voice 51 = .ok (.iload_n 3, 1) := by decide +kernel
theorem dX9_voice_52 : decode cX9_voice 52 = .ok (.invokevirtual 243, 3) := by decide +kernel
theorem dX9_voice_55 : decode cX9_voice 55 = .ok (.goto 40, 3) := by decide +kernel
theorem dX9_voice_58 : decode cX9_voice 58 = .ok (.iload_n 2, 1) := by decide +kernel
theorem dX9_voice_59 : decode cX9_voice 59 = .ok (.iconst 1, 1) := by decide +kernel
theorem dX9_voice_60 : decode cX9_voice 60 = .ok (.if_icmp .ne 13, 3) := by decide +kernel
theorem dX9_voice_63 : decode cX9_voice 63 = .ok (.aload_n 0, 1) := by decide +kernel
theorem dX9_voice_64 : decode cX9_voice 64 = .ok (.iload 4, 2) := by decide +kernel
theorem dX9_voice_66 : decode cX9_voice 66 = .ok (.iload_n 3, 1) := by decide +kernel
theorem dX9_voice_67 : decode cX9_voice 67 = .ok (.invokevirtual 249, 3) := by decide +kernel
theorem dX9_voice_70 : decode cX9_voice 70 = .ok (.goto 25, 3) := by decide +kernel
theorem dX9_voice_73 : decode cX9_voice 73 = .ok (.iload_n 2, 1) := by decide +kernel
theorem dX9_voice_74 : decode cX9_voice 74 = .ok (.iconst 2, 1) := by decide +kernel
theorem dX9_voice_75 : decode cX9_voice 75 = .ok (.if_icmp .ne 13, 3) := by decide +kernel
theorem dX9_voice_78 : decode cX9_voice 78 = .ok (.aload_n 0, 1) := by decide +kernel
theorem dX9_voice_79 : decode cX9_voice 79 = .ok (.iload 4, 2) := by decide +kernel
theorem dX9_voice_81 : decode cX9_voice 81 = .ok (.iload_n 3, 1) := by decide +kernel
theorem dX9_voice_82 : decode cX9_voice 82 = .ok (.invokevirtual 255, 3) := by decide +kernel
theorem dX9_voice_85 : decode cX9_voice 85 = .ok (.goto 10, 3) := by decide +kernel
theorem dX9_voice_88 : decode cX9_voice 88 = .ok (.aload_n 0, 1) := by decide +kernel
theorem dX9_voice_89 : decode cX9_voice 89 = .ok (.iload 4, 2) := by decide +kernel
theorem dX9_voice_91 : decode cX9_voice 91 = .ok (.iload_n 3, 1) := by decide +kernel
theorem dX9_voice_92 : decode cX9_voice 92 = .ok (.invokevirtual 262, 3) := by decide +kernel
theorem dX9_voice_95 : decode cX9_voice 95 = .ok (.istore 5, 2) := by decide +kernel
theorem dX9_voice_97 : decode cX9_voice 97 = .ok (.aload_n 0, 1) := by decide +kernel
theorem dX9_voice_98 : decode cX9_voice 98 = .ok (.getfield 258, 3) := by decide +kernel
theorem dX9_voice_101 : decode cX9_voice 101 = .ok (.ifCond .eq 12, 3) := by decide +kernel
theorem dX9_voice_104 : decode cX9_voice 104 = .ok (.aload_n 0, 1) := by decide +kernel
theorem dX9_voice_105 : decode cX9_voice 105 = .ok (.bipush 6, 2) := by decide +kernel
theorem dX9_voice_107 : decode cX9_voice 107 = .ok (.invokevirtual 70, 3) := by decide +kernel
theorem dX9_voice_110 : decode cX9_voice 110 = .ok (.goto 5, 3) := by decide +kernel
theorem dX9_voice_113 : decode cX9_voice 113 = .ok (.iload 5, 2) := by decide +kernel
theorem dX9_voice_115 : decode cX9_voice 115 = .ok (.ireturn, 1) := by decide +kernel
theorem dX9_body_0 : decode cX9_body 0 = .ok (.iload_n 1, 1) := by decide +kernel
theorem dX9_body_1 : decode cX9_body 1 = .ok (.iconst 0, 1) := by decide +kernel
theorem dX9_body_2 : decode cX9_body 2 = .ok (.aload_n 0, 1) := by decide +kernel
theorem dX9_body_3 : decode cX9_body 3 = .ok (.getfield 231, 3) := by decide +kernel
theorem dX9_body_6 : decode cX9_body 6 = .ok (.iconst 1, 1) := by decide +kernel
theorem dX9_body_7 : decode cX9_body 7 = .ok (.isub, 1) := by decide +kernel
theorem dX9_body_8 : decode cX9_body 8 = .ok (.invokestatic 47, 3) := by decide +kernel
theorem dX9_body_11 : decode cX9_body 11 = .ok (.ifCond .eq 12, 3) := by decide +kernel
theorem dX9_body_14 : decode cX9_body 14 = .ok (.aload_n 0, 1) := by decide +kernel
theorem dX9_body_15 : decode cX9_body 15 = .ok (.getfield 31, 3) := by decide +kernel
theorem dX9_body_18 : decode cX9_body 18 = .ok (.iload_n 1, 1) := by decide +kernel
theorem dX9_body_19 : decode cX9_body 19 = .ok (.iaload, 1) := by decide +kernel
theorem dX9_body_20 : decode cX9_body 20 = .ok (.goto 8, 3) := by decide +kernel
theorem dX9_body_23 : decode cX9_body 23 = .ok (.aload_n 0, 1) := by decide +kernel
theorem dX9_body_24 : decode cX9_body 24 = .ok (.iconst 2, 1) := by decide +kernel
theorem dX9_body_25 : decode cX9_body 25 = .ok (.invokevirtual 70, 3) := by decide +kernel
theorem dX9_body_28 : decode cX9_body 28 = .ok (.ireturn, 1) := by decide +kernel
theorem dX9_isSheet_0 : decode cX9_isSheet 0 = .ok (.iload_n 0, 1) := by decide +kernel
theorem dX9_isSheet_1 : decode cX9_isSheet 1 = .ok (.iconst 0, 1) := by decide +kernel
theorem dX9_isSheet_2 : decode cX9_isSheet 2 = .ok (.iconst 3, 1) := by decide +kernel
theorem dX9_isSheet_3 : decode cX9_isSheet 3 = .ok (.invokestatic 47, 3) := by decide +kernel
theorem dX9_isSheet_6 : decode cX9_isSheet 6 = .ok (.ireturn, 1) := by decide +kernel
theorem dX9_sheet_0 : decode cX9_sheet 0 = .ok (.iload_n 1, 1) := by decide +kernel
theorem dX9_sheet_1 : decode cX9_sheet 1 = .ok (.invokestatic 265, 3) := by decide +kernel
theorem dX9_sheet_4 : decode cX9_sheet 4 = .ok (.ifCond .eq 25, 3) := by decide +kernel
theorem dX9_sheet_7 : decode cX9_sheet 7 = .ok (.iload_n 2, 1) := by decide +kernel
theorem dX9_sheet_8 : decode cX9_sheet 8 = .ok (.ifCond .eq 27, 3) := by decide +kernel
theorem dX9_sheet_11 : decode cX9_sheet 11 = .ok (.iload_n 2, 1) := by decide +kernel
theorem dX9_sheet_12 : decode cX9_sheet 12 = .ok (.bipush 8, 2) := by decide +kernel
theorem dX9_sheet_14 : decode cX9_sheet 14 = .ok (.if_icmp .eq 21, 3) := by decide +kernel
theorem dX9_sheet_17 : decode cX9_sheet 17 = .ok (.iload_n 2, 1) := by decide +kernel
theorem dX9_sheet_18 : decode cX9_sheet 18 = .ok (.bipush 16, 2) := by decide +kernel
theorem dX9_sheet_20 : decode cX9_sheet 20 = .ok (.if_icmp .eq 15, 3) := by decide +kernel
theorem dX9_sheet_23 : decode cX9_sheet 23 = .ok (.iload_n 2, 1) := by decide +kernel
theorem dX9_sheet_24 : decode cX9_sheet 24 = .ok (.bipush 32, 2) := by decide +kernel
theorem dX9_sheet_26 : decode cX9_sheet 26 = .ok (.if_icmp .eq 9, 3) := by decide +kernel
theorem dX9_sheet_29 : decode cX9_sheet 29 = .ok (.aload_n 0, 1) := by decide +kernel
theorem dX9_sheet_30 : decode cX9_sheet 30 = .ok (.iconst 1, 1) := by decide +kernel
theorem dX9_sheet_31 : decode cX9_sheet 31 = .ok (.invokevirtual 70, 3) := by decide +kernel
theorem dX9_sheet_34 : decode cX9_sheet 34 = .ok (.ireturn, 1) := by decide +kernel
theorem dX9_sheet_35 : decode cX9_sheet 35 = .ok (.iload_n 2, 1) := by decide +kernel
theorem dX9_sheet_36 : decode cX9_sheet 36 = .ok (.ifCond .eq 13, 3) := by decide +kernel
theorem dX9_sheet_39 : decode cX9_sheet 39 = .ok (.iload_n 3, 1) := by decide +kernel
theorem dX9_sheet_40 : decode cX9_sheet 40 = .ok (.ifCond .ge 9, 3) := by decide +kernel
theorem dX9_sheet_43 : decode cX9_sheet 43 = .ok (.aload_n 0, 1) := by decide +kernel
theorem dX9_sheet_44 : decode cX9_sheet 44 = .ok (.iconst 3, 1) := by decide +kernel
theorem dX9_sheet_45 : decode cX9_sheet 45 = .ok (.invokevirtual 70, 3) := by decide +kernel
theorem dX9_sheet_48 : decode cX9_sheet 48 = .ok (.ireturn, 1) := by decide +kernel
theorem dX9_sheet_49 : decode cX9_sheet 49 = .ok (.iload_n 2, 1) := by decide +kernel
theorem dX9_sheet_50 : decode cX9_sheet 50 = .ok (.ifCond .eq 15, 3) := by decide +kernel
theorem dX9_sheet_53 : decode cX9_sheet 53 = .ok (.iload_n 3, 1) := by decide +kernel
theorem dX9_sheet_54 : decode cX9_sheet 54 = .ok (.bipush 24, 2) := by decide +kernel
theorem dX9_sheet_56 : decode cX9_sheet 56 = .ok (.if_icmp .le 9, 3) := by decide +kernel
theorem dX9_sheet_59 : decode cX9_sheet 59 = .ok (.aload_n 0, 1) := by decide +kernel
theorem dX9_sheet_60 : decode cX9_sheet 60 = .ok (.iconst 1, 1) := by decide +kernel
theorem dX9_sheet_61 : decode cX9_sheet 61 = .ok (.invokevirtual 70, 3) := by decide +kernel
theorem dX9_sheet_64 : decode cX9_sheet 64 = .ok (.ireturn, 1) := by decide +kernel
theorem dX9_sheet_65 : decode cX9_sheet 65 = .ok (.aload_n 0, 1) := by decide +kernel
theorem dX9_sheet_66 : decode cX9_sheet 66 = .ok (.getfield 34, 3) := by decide +kernel
theorem dX9_sheet_69 : decode cX9_sheet 69 = .ok (.iload_n 1, 1) := by decide +kernel
theorem dX9_sheet_70 : decode cX9_sheet 70 = .ok (.iload_n 2, 1) := by decide +kernel
theorem dX9_sheet_71 : decode cX9_sheet 71 = .ok (.iastore, 1) := by decide +kernel
theorem dX9_sheet_72 : decode cX9_sheet 72 = .ok (.aload_n 0, 1) := by decide +kernel
theorem dX9_sheet_73 : decode cX9_sheet 73 = .ok (.getfield 37, 3) := by decide +kernel
theorem dX9_sheet_76 : decode cX9_sheet 76 = .ok (.iload_n 1, 1) := by decide +kernel
theorem dX9_sheet_77 : decode cX9_sheet 77 = .ok (.iload_n 2, 1) := by decide +kernel
theorem dX9_sheet_78 : decode cX9_sheet 78 = .ok (.ifCond .ne 7, 3) := by decide +kernel
theorem dX9_sheet_81 : decode cX9_sheet 81 = .ok (.iconst 0, 1) := by decide +kernel
theorem dX9_sheet_82 : decode cX9_sheet 82 = .ok (.goto 4, 3) := by decide +kernel
theorem dX9_sheet_85 : decode cX9_sheet 85 = .ok (.iload_n 3, 1) := by decide +kernel
theorem dX9_sheet_86 : decode cX9_sheet 86 = .ok (.iastore, 1) := by decide +kernel
theorem dX9_sheet_87 : decode cX9_sheet 87 = .ok (.iconst 0, 1) := by decide +kernel
theorem dX9_sheet_88 : decode cX9_sheet 88 = .ok (.istore 4, 2) := by decide +kernel
theorem dX9_sheet_90 : decode cX9_sheet 90 = .ok (.iload 4, 2) := by decide +kernel
theorem dX9_sheet_92 : decode cX9_sheet 92 = .ok (.bipush 24, 2) := by decide +kernel
theorem dX9_sheet_94 : decode cX9_sheet 94 = .ok (.if_icmp .ge 22, 3) := by decide +kernel
theorem dX9_sheet_97 : decode cX9_sheet 97 = .ok (.aload_n 0, 1) := by decide +kernel
theorem dX9_sheet_98 : decode cX9_sheet 98 = .ok (.getfield 40, 3) := by decide +kernel
theorem dX9_sheet_101 : decode cX9_sheet 101 = .ok (.bipush 24, 2) := by decide +kernel
theorem dX9_sheet_103 : decode cX9_sheet 103 = .ok (.iload_n 1, 1) := by decide +kernel
theorem dX9_sheet_104 : decode cX9_sheet 104 = .ok (.imul, 1) := by decide +kernel
theorem dX9_sheet_105 : decode cX9_sheet 105 = .ok (.iload 4, 2) := by decide +kernel
theorem dX9_sheet_107 : decode cX9_sheet 107 = .ok (.iadd, 1) := by decide +kernel
theorem dX9_sheet_108 : decode cX9_sheet 108 = .ok (.iconst 0, 1) := by decide +kernel
theorem dX9_sheet_109 : decode cX9_sheet 109 = .ok (.iastore, 1) := by decide +kernel
theorem dX9_sheet_110 : decode cX9_sheet 110 = .ok (.iinc 4 1, 3) := by decide +kernel
theorem dX9_sheet_113 : decode cX9_sheet 113 = .ok (.goto (-23), 3) := by decide +kernel
theorem dX9_sheet_116 : decode cX9_sheet 116 = .ok (.iconst 1, 1) := by decide +kernel
theorem dX9_sheet_117 : decode cX9_sheet 117 = .ok (.ireturn, 1) := by decide +kernel
theorem dX9_put_0 : decode cX9_put 0 = .ok (.iload_n 1, 1) := by decide +kernel
theorem dX9_put_1 : decode cX9_put 1 = .ok (.invokestatic 265, 3) := by decide +kernel
theorem dX9_put_4 : decode cX9_put 4 = .ok (.ifCond .ne 9, 3) := by decide +kernel
theorem dX9_put_7 : decode cX9_put 7 = .ok (.aload_n 0, 1) := by decide +kernel
theorem dX9_put_8 : decode cX9_put 8 = .ok (.iconst 1, 1) := by decide +kernel
theorem dX9_put_9 : decode cX9_put 9 = .ok (.invokevirtual 70, 3) := by decide +kernel
theorem dX9_put_12 : decode cX9_put 12 = .ok (.ireturn, 1) := by decide +kernel
theorem dX9_put_13 : decode cX9_put 13 = .ok (.aload_n 0, 1) := by decide +kernel
theorem dX9_put_14 : decode cX9_put 14 = .ok (.getfield 34, 3) := by decide +kernel
theorem dX9_put_17 : decode cX9_put 17 = .ok (.iload_n 1, 1) := by decide +kernel
theorem dX9_put_18 : decode cX9_put 18 = .ok (.iaload, 1) := by decide +kernel
theorem dX9_put_19 : decode cX9_put 19 = .ok (.ifCond .ne 9, 3) := by decide +kernel
theorem dX9_put_22 : decode cX9_put 22 = .ok (.aload_n 0, 1) := by decide +kernel
theorem dX9_put_23 : decode cX9_put 23 = .ok (.iconst 2, 1) := by decide +kernel
theorem dX9_put_24 : decode cX9_put 24 = .ok (.invokevirtual 70, 3) := by decide +kernel
theorem dX9_put_27 : decode cX9_put 27 = .ok (.ireturn, 1) := by decide +kernel
theorem dX9_put_28 : decode cX9_put 28 = .ok (.iload_n 2, 1) := by decide +kernel
theorem dX9_put_29 : decode cX9_put 29 = .ok (.iconst 0, 1) := by decide +kernel
theorem dX9_put_30 : decode cX9_put 30 = .ok (.aload_n 0, 1) := by decide +kernel
theorem dX9_put_31 : decode cX9_put 31 = .ok (.getfield 37, 3) := by decide +kernel
theorem dX9_put_34 : decode cX9_put 34 = .ok (.iload_n 1, 1) := by decide +kernel
theorem dX9_put_35 : decode cX9_put 35 = .ok (.iaload, 1) := by decide +kernel
theorem dX9_put_36 : decode cX9_put 36 = .ok (.iconst 1, 1) := by decide +kernel
theorem dX9_put_37 : decode cX9_put 37 = .ok (.isub, 1) := by decide +kernel
theorem dX9_put_38 : decode cX9_put 38 = .ok (.invokestatic 47, 3) := by decide +kernel
theorem dX9_put_41 : decode cX9_put 41 = .ok (.ifCond .ne 9, 3) := by decide +kernel
theorem dX9_put_44 : decode cX9_put 44 = .ok (.aload_n 0, 1) := by decide +kernel
theorem dX9_put_45 : decode cX9_put 45 = .ok (.iconst 1, 1) := by decide +kernel
theorem dX9_put_46 : decode cX9_put 46 = .ok (.invokevirtual 70, 3) := by decide +kernel
theorem dX9_put_49 : decode cX9_put 49 = .ok (.ireturn, 1) := by decide +kernel
theorem dX9_put_50 : decode cX9_put 50 = .ok (.bipush 32, 2) := by decide +kernel
theorem dX9_put_52 : decode cX9_put 52 = .ok (.aload_n 0, 1) := by decide +kernel
theorem dX9_put_53 : decode cX9_put 53 = .ok (.getfield 34, 3) := by decide +kernel
theorem dX9_put_56 : decode cX9_put 56 = .ok (.iload_n 1, 1) := by decide +kernel
theorem dX9_put_57 : decode cX9_put 57 = .ok (.iaload, 1) := by decide +kernel
theorem dX9_put_58 : decode cX9_put 58 = .ok (.isub, 1) := by decide +kernel
theorem dX9_put_59 : decode cX9_put 59 = .ok (.istore 4, 2) := by decide +kernel
theorem dX9_put_61 : decode cX9_put 61 = .ok (.aload_n 0, 1) := by decide +kernel
theorem dX9_put_62 : decode cX9_put 62 = .ok (.getfield 40, 3) := by decide +kernel
theorem dX9_put_65 : decode cX9_put 65 = .ok (.bipush 24, 2) := by decide +kernel
theorem dX9_put_67 : decode cX9_put 67 = .ok (.iload_n 1, 1) := by decide +kernel
theorem dX9_put_68 : decode cX9_put 68 = .ok (.imul, 1) := by decide +kernel
theorem dX9_put_69 : decode cX9_put 69 = .ok (.iload_n 2, 1) := by decide +kernel
theorem dX9_put_70 : decode cX9_put 70 = .ok (.iadd, 1) := by decide +kernel
theorem dX9_put_71 : decode cX9_put 71 = .ok (.iload_n 3, 1) := by decide +kernel
theorem dX9_put_72 : decode cX9_put 72 = .ok (.iload 4, 2) := by decide +kernel
theorem dX9_put_74 : decode cX9_put 74 = .ok (.ishl, 1) := by decide +kernel
theorem dX9_put_75 : decode cX9_put 75 = .ok (.iload 4, 2) := by decide +kernel
theorem dX9_put_77 : decode cX9_put 77 = .ok (.ishr, 1) := by decide +kernel
theorem dX9_put_78 : decode cX9_put 78 = .ok (.iastore, 1) := by decide +kernel
theorem dX9_put_79 : decode cX9_put 79 = .ok (.iconst 1, 1) := by decide +kernel
theorem dX9_put_80 : decode cX9_put 80 = .ok (.ireturn, 1) := by decide +kernel
theorem dX9_move_0 : decode cX9_move 0 = .ok (.iload_n 1, 1) := by decide +kernel
theorem dX9_move_1 : decode cX9_move 1 = .ok (.invokestatic 265, 3) := by decide +kernel
theorem dX9_move_4 : decode cX9_move 4 = .ok (.ifCond .eq 10, 3) := by decide +kernel
theorem dX9_move_7 : decode cX9_move 7 = .ok (.iload_n 3, 1) := by decide +kernel
theorem dX9_move_8 : decode cX9_move 8 = .ok (.invokestatic 265, 3) := by decide +kernel
theorem dX9_move_11 : decode cX9_move 11 = .ok (.ifCond .ne 9, 3) := by decide +kernel
theorem dX9_move_14 : decode cX9_move 14 = .ok (.aload_n 0, 1) := by decide +kernel
theorem dX9_move_15 : decode cX9_move 15 = .ok (.iconst 1, 1) := by decide +kernel
theorem dX9_move_16 : decode cX9_move 16 = .ok (.invokevirtual 70, 3) := by decide +kernel
theorem dX9_move_19 : decode cX9_move 19 = .ok (.ireturn, 1) := by decide +kernel
theorem dX9_move_20 : decode cX9_move 20 = .ok (.aload_n 0, 1) := by decide +kernel
theorem dX9_move_21 : decode cX9_move 21 = .ok (.getfield 34, 3) := by decide +kernel
theorem dX9_move_24 : decode cX9_move 24 = .ok (.iload_n 1, 1) := by decide +kernel
theorem dX9_move_25 : decode cX9_move 25 = .ok (.iaload, 1) := by decide +kernel
theorem dX9_move_26 : decode cX9_move 26 = .ok (.ifCond .eq 12, 3) := by decide +kernel
theorem dX9_move_29 : decode cX9_move 29 = .ok (.aload_n 0, 1) := by decide +kernel
theorem dX9_move_30 : decode cX9_move 30 = .ok (.getfield 34, 3) := by decide +kernel
theorem dX9_move_33 : decode cX9_move 33 = .ok (.iload_n 3, 1) := by decide +kernel
theorem dX9_move_34 : decode cX9_move 34 = .ok (.iaload, 1) := by decide +kernel
theorem dX9_move_35 : decode cX9_move 35 = .ok (.ifCond .ne 9, 3) := by decide +kernel
theorem dX9_move_38 : decode cX9_move 38 = .ok (.aload_n 0, 1) := by decide +kernel
theorem dX9_move_39 : decode cX9_move 39 = .ok (.iconst 2, 1) := by decide +kernel
theorem dX9_move_40 : decode cX9_move 40 = .ok (.invokevirtual 70, 3) := by decide +kernel
theorem dX9_move_43 : decode cX9_move 43 = .ok (.ireturn, 1) := by decide +kernel
theorem dX9_move_44 : decode cX9_move 44 = .ok (.aload_n 0, 1) := by decide +kernel
theorem dX9_move_45 : decode cX9_move 45 = .ok (.getfield 34, 3) := by decide +kernel
theorem dX9_move_48 : decode cX9_move 48 = .ok (.iload_n 1, 1) := by decide +kernel
theorem dX9_move_49 : decode cX9_move 49 = .ok (.iaload, 1) := by decide +kernel
theorem dX9_move_50 : decode cX9_move 50 = .ok (.aload_n 0, 1) := by decide +kernel
theorem dX9_move_51 : decode cX9_move 51 = .ok (.getfield 34, 3) := by decide +kernel
theorem dX9_move_54 : decode cX9_move 54 = .ok (.iload_n 3, 1) := by decide +kernel
theorem dX9_move_55 : decode cX9_move 55 = .ok (.iaload, 1) := by decide +kernel
theorem dX9_move_56 : decode cX9_move 56 = .ok (.if_icmp .eq 9, 3) := by decide +kernel
theorem dX9_move_59 : decode cX9_move 59 = .ok (.aload_n 0, 1) := by decide +kernel
theorem dX9_move_60 : decode cX9_move 60 = .ok (.iconst 5, 1) := by decide +kernel
theorem dX9_move_61 : decode cX9_move 61 = .ok (.invokevirtual 70, 3) := by decide +kernel
theorem dX9_move_64 : decode cX9_move 64 = .ok (.ireturn, 1) := by decide +kernel
theorem dX9_move_65 : decode cX9_move 65 = .ok (.iload 5, 2) := by decide +kernel
theorem dX9_move_67 : decode cX9_move 67 = .ok (.ifCond .lt 39, 3) := by decide +kernel
theorem dX9_move_70 : decode cX9_move 70 = .ok (.iload_n 2, 1) := by decide +kernel
theorem dX9_move_71 : decode cX9_move 71 = .ok (.ifCond .lt 35, 3) := by decide +kernel
theorem dX9_move_74 : decode cX9_move 74 = .ok (.iload 4, 2) := by decide +kernel
theorem dX9_move_76 : decode cX9_move 76 = .ok (.ifCond .lt 30, 3) := by decide +kernel
theorem dX9_move_79 : decode cX9_move 79 = .ok (.iload_n 2, 1) := by decide +kernel
theorem dX9_move_80 : decode cX9_move 80 = .ok (.aload_n 0, 1) := by decide +kernel
theorem dX9_move_81 : decode cX9_move 81 = .ok (.getfield 37, 3) := by decide +kernel
theorem dX9_move_84 : decode cX9_move 84 = .ok (.iload_n 1, 1) := by decide +kernel
theorem dX9_move_85 : decode cX9_move 85 = .ok (.iaload, 1) := by decide +kernel
theorem dX9_move_86 : decode cX9_move 86 = .ok (.iload 5, 2) := by decide +kernel
theorem dX9_move_88 : decode cX9_move 88 = .ok (.isub, 1) := by decide +kernel
theorem dX9_move_89 : decode cX9_move 89 = .ok (.if_icmp .gt 17, 3) := by decide +kernel
theorem dX9_move_92 : decode cX9_move 92 = .ok (.iload 4, 2) := by decide +kernel
theorem dX9_move_94 : decode cX9_move 94 = .ok (.aload_n 0, 1) := by decide +kernel
theorem dX9_move_95 : decode cX9_move 95 = .ok (.getfield 37, 3) := by decide +kernel
theorem dX9_move_98 : decode cX9_move 98 = .ok (.iload_n 3, 1) := by decide +kernel
theorem dX9_move_99 : decode cX9_move 99 = .ok (.iaload, 1) := by decide +kernel
theorem dX9_move_100 : decode cX9_move 100 = .ok (.iload 5, 2) := by decide +kernel
theorem dX9_move_102 : decode cX9_move 102 = .ok (.isub, 1) := by decide +kernel
theorem dX9_move_103 : decode cX9_move 103 = .ok (.if_icmp .le 9, 3) := by decide +kernel
theorem dX9_move_106 : decode cX9_move 106 = .ok (.aload_n 0, 1) := by decide +kernel
theorem dX9_move_107 : decode cX9_move 107 = .ok (.iconst 1, 1) := by decide +kernel
theorem dX9_move_108 : decode cX9_move 108 = .ok (.invokevirtual 70, 3) := by decide +kernel
theorem dX9_move_111 : decode cX9_move 111 = .ok (.ireturn, 1) := by decide +kernel
theorem dX9_move_112 : decode cX9_move 112 = .ok (.iconst 0, 1) := by decide +kernel
theorem dX9_move_113 : decode cX9_move 113 = .ok (.istore 6, 2) := by decide +kernel
theorem dX9_move_115 : decode cX9_move 115 = .ok (.iload 6, 2) := by decide +kernel
theorem dX9_move_117 : decode cX9_move 117 = .ok (.iload 5, 2) := by decide +kernel
theorem dX9_move_119 : decode cX9_move 119 = .ok (.if_icmp .ge 30, 3) := by decide +kernel
theorem dX9_move_122 : decode cX9_move 122 = .ok (.aload_n 0, 1) := by decide +kernel
theorem dX9_move_123 : decode cX9_move 123 = .ok (.getfield 43, 3) := by decide +kernel
theorem dX9_move_126 : decode cX9_move 126 = .ok (.iload 6, 2) := by decide +kernel
theorem dX9_move_128 : decode cX9_move 128 = .ok (.aload_n 0, 1) := by decide +kernel
theorem dX9_move_129 : decode cX9_move 129 = .ok (.getfield 40, 3) := by decide +kernel
theorem dX9_move_132 : decode cX9_move 132 = .ok (.bipush 24, 2) := by decide +kernel
theorem dX9_move_134 : decode cX9_move 134 = .ok (.iload_n 1, 1) := by decide +kernel
theorem dX9_move_135 : decode cX9_move 135 = .ok (.imul, 1) := by decide +kernel
theorem dX9_move_136 : decode cX9_move 136 = .ok (.iload_n 2, 1) := by decide +kernel
theorem dX9_move_137 : decode cX9_move 137 = .ok (.iadd, 1) := by decide +kernel
theorem dX9_move_138 : decode cX9_move 138 = .ok (.iload 6, 2) := by decide +kernel
theorem dX9_move_140 : decode cX9_move 140 = .ok (.iadd, 1) := by decide +kernel
theorem dX9_move_141 : decode cX9_move 141 = .ok (.iaload, 1) := by decide +kernel
theorem dX9_move_142 : decode cX9_move 142 = .ok (.iastore, 1) := by decide +kernel
theorem dX9_move_143 : decode cX9_move 143 = .ok (.iinc 6 1, 3) := by decide +kernel
theorem dX9_move_146 : decode cX9_move 146 = .ok (.goto (-31), 3) := by decide +kernel
theorem dX9_move_149 : decode cX9_move 149 = .ok (.iconst 0, 1) := by decide +kernel
theorem dX9_move_150 : decode cX9_move 150 = .ok (.istore 6, 2) := by decide +kernel
theorem dX9_move_152 : decode cX9_move 152 = .ok (.iload 6, 2) := by decide +kernel
theorem dX9_move_154 : decode cX9_move 154 = .ok (.iload 5, 2) := by decide +kernel
theorem dX9_move_156 : decode cX9_move 156 = .ok (.if_icmp .ge 31, 3) := by decide +kernel
theorem dX9_move_159 : decode cX9_move 159 = .ok (.aload_n 0, 1) := by decide +kernel
theorem dX9_move_160 : decode cX9_move 160 = .ok (.getfield 40, 3) := by decide +kernel
theorem dX9_move_163 : decode cX9_move 163 = .ok (.bipush 24, 2) := by decide +kernel
theorem dX9_move_165 : decode cX9_move 165 = .ok (.iload_n 3, 1) := by decide +kernel
theorem dX9_move_166 : decode cX9_move 166 = .ok (.imul, 1) := by decide +kernel
theorem dX9_move_167 : decode cX9_move 167 = .ok (.iload 4, 2) := by decide +kernel
theorem dX9_move_169 : decode cX9_move 169 = .ok (.iadd, 1) := by decide +kernel
theorem dX9_move_170 : decode cX9_move 170 = .ok (.iload 6, 2) := by decide +kernel
theorem dX9_move_172 : decode cX9_move 172 = .ok (.iadd, 1) := by decide +kernel
theorem dX9_move_173 : decode cX9_move 173 = .ok (.aload_n 0, 1) := by decide +kernel
theorem dX9_move_174 : decode cX9_move 174 = .ok (.getfield 43, 3) := by decide +kernel
theorem dX9_move_177 : decode cX9_move 177 = .ok (.iload 6, 2) := by decide +kernel
theorem dX9_move_179 : decode cX9_move 179 = .ok (.iaload, 1) := by decide +kernel
theorem dX9_move_180 : decode cX9_move 180 = .ok (.iastore, 1) := by decide +kernel
theorem dX9_move_181 : decode cX9_move 181 = .ok (.iinc 6 1, 3) := by decide +kernel
theorem dX9_move_184 : decode cX9_move 184 = .ok (.goto (-32), 3) := by decide +kernel
theorem dX9_move_187 : decode cX9_move 187 = .ok (.iload 5, 2) := by decide +kernel
theorem dX9_move_189 : decode cX9_move 189 = .ok (.ireturn, 1) := by decide +kernel
theorem dX9_lacks_0 : decode cX9_lacks 0 = .ok (.iload_n 1, 1) := by decide +kernel
theorem dX9_lacks_1 : decode cX9_lacks 1 = .ok (.invokestatic 265, 3) := by decide +kernel
theorem dX9_lacks_4 : decode cX9_lacks 4 = .ok (.ifCond .ne 7, 3) := by decide +kernel
theorem dX9_lacks_7 : decode cX9_lacks 7 = .ok (.iconst 1, 1) := by decide +kernel
theorem dX9_lacks_8 : decode cX9_lacks 8 = .ok (.goto 17, 3) := by decide +kernel
theorem dX9_lacks_11 : decode cX9_lacks 11 = .ok (.aload_n 0, 1) := by decide +kernel
theorem dX9_lacks_12 : decode cX9_lacks 12 = .ok (.getfield 34, 3) := by decide +kernel
theorem dX9_lacks_15 : decode cX9_lacks 15 = .ok (.iload_n 1, 1) := by decide +kernel
theorem dX9_lacks_16 : decode cX9_lacks 16 = .ok (.iaload, 1) := by decide +kernel
theorem dX9_lacks_17 : decode cX9_lacks 17 = .ok (.ifCond .ne 7, 3) := by decide +kernel
theorem dX9_lacks_20 : decode cX9_lacks 20 = .ok (.iconst 2, 1) := by decide +kernel
theorem dX9_lacks_21 : decode cX9_lacks 21 = .ok (.goto 4, 3) := by decide +kernel
theorem dX9_lacks_24 : decode cX9_lacks 24 = .ok (.iconst 0, 1) := by decide +kernel
theorem dX9_lacks_25 : decode cX9_lacks 25 = .ok (.ireturn, 1) := by decide +kernel
theorem dX9_customers_0 : decode cX9_customers 0 = .ok (.aload_n 0, 1) := by decide +kernel
theorem dX9_customers_1 : decode cX9_customers 1 = .ok (.iload_n 1, 1) := by decide +kernel
theorem dX9_customers_2 : decode cX9_customers 2 = .ok (.invokevirtual 268, 3) := by decide +kernel
theorem dX9_customers_5 : decode cX9_customers 5 = .ok (.istore_n 2, 1) := by decide +kernel
theorem dX9_customers_6 : decode cX9_customers 6 = .ok (.iload_n 2, 1) := by decide +kernel
theorem dX9_customers_7 : decode cX9_customers 7 = .ok (.ifCond .le 9, 3) := by decide +kernel
theorem dX9_customers_10 : decode cX9_customers 10 = .ok (.aload_n 0, 1) := by decide +kernel
theorem dX9_customers_11 : decode cX9_customers 11 = .ok (.iload_n 2, 1) := by decide +kernel
theorem dX9_customers_12 : decode cX9_customers 12 = .ok (.invokevirtual 70, 3) := by decide +kernel
theorem dX9_customers_15 : decode cX9_customers 15 = .ok (.ireturn, 1) := by decide +kernel
theorem dX9_customers_16 : decode cX9_customers 16 = .ok (.iconst 0, 1) := by decide +kernel
theorem dX9_customers_17 : decode cX9_customers 17 = .ok (.istore_n 3, 1) := by decide +kernel
theorem dX9_customers_18 : decode cX9_customers 18 = .ok (.bipush 24, 2) := by decide +kernel
theorem dX9_customers_20 : decode cX9_customers 20 = .ok (.iload_n 1, 1) := by decide +kernel
theorem dX9_customers_21 : decode cX9_customers 21 = .ok (.imul, 1) := by decide +kernel
theorem dX9_customers_22 : decode cX9_customers 22 = .ok (.istore 4, 2) := by decide +kernel
theorem dX9_customers_24 : decode cX9_customers 24 = .ok (.iconst 3, 1) := by decide +kernel
theorem dX9_customers_25 : decode cX9_customers 25 = .ok (.iload_n 3, 1) := by decide +kernel
theorem dX9_customers_26 : decode cX9_customers 26 = .ok (.imul, 1) := by decide +kernel
theorem dX9_customers_27 : decode cX9_customers 27 = .ok (.iconst 2, 1) := by decide +kernel
theorem dX9_customers_28 : decode cX9_customers 28 = .ok (.iadd, 1) := by decide +kernel
theorem dX9_customers_29 : decode cX9_customers 29 = .ok (.aload_n 0, 1) := by decide +kernel
theorem dX9_customers_30 : decode cX9_customers 30 = .ok (.getfield 37, 3) := by decide +kernel
theorem dX9_customers_33 : decode cX9_customers 33 = .ok (.iload_n 1, 1) := by decide +kernel
theorem dX9_customers_34 : decode cX9_customers 34 = .ok (.iaload, 1) := by decide +kernel
theorem dX9_customers_35 : decode cX9_customers 35 = .ok (.if_icmp .ge 104, 3) := by decide +kernel
theorem dX9_customers_38 : decode cX9_customers 38 = .ok (.aload_n 0, 1) := by decide +kernel
theorem dX9_customers_39 : decode cX9_customers 39 = .ok (.getfield 7, 3) := by decide +kernel
theorem dX9_customers_42 : decode cX9_customers 42 = .ok (.iconst 1, 1) := by decide +kernel
theorem dX9_customers_43 : decode cX9_customers 43 = .ok (.iaload, 1) := by decide +kernel
theorem dX9_customers_44 : decode cX9_customers 44 = .ok (.bipush 10, 2) := by decide +kernel
theorem dX9_customers_46 : decode cX9_customers 46 = .ok (.if_icmp .ge 93, 3) := by decide +kernel
theorem dX9_customers_49 : decode cX9_customers 49 = .ok (.aload_n 0, 1) := by decide +kernel
theorem dX9_customers_50 : decode cX9_customers 50 = .ok (.getfield 40, 3) := by decide +kernel
theorem dX9_customers_53 : decode cX9_customers 53 = .ok (.iload 4, 2) := by decide +kernel
theorem dX9_customers_55 : decode cX9_customers 55 = .ok (.iconst 3, 1) := by decide +kernel
theorem dX9_customers_56 : decode cX9_customers 56 = .ok (.iload_n 3, 1) := by decide +kernel
theorem dX9_customers_57 : decode cX9_customers 57 = .ok (.imul, 1) := by decide +kernel
theorem dX9_customers_58 : decode cX9_customers 58 = .ok (.iadd, 1) := by decide +kernel
theorem dX9_customers_59 : decode cX9_customers 59 = .ok (.iaload, 1) := by decide +kernel
theorem dX9_customers_60 : decode cX9_customers 60 = .ok (.aload_n 0, 1) := by decide +kernel
theorem dX9_customers_61 : decode cX9_customers 61 = .ok (.getfield 40, 3) := by decide +kernel
theorem dX9_customers_64 : decode cX9_customers 64 = .ok (.iload 4, 2) := by decide +kernel
theorem dX9_customers_66 : decode cX9_customers 66 = .ok (.iconst 3, 1) := by decide +kernel
theorem dX9_customers_67 : decode cX9_customers 67 = .ok (.iload_n 3, 1) := by decide +kernel
theorem dX9_customers_68 : decode cX9_customers 68 = .ok (.imul, 1) := by decide +kernel
theorem dX9_customers_69 : decode cX9_customers 69 = .ok (.iadd, 1) := by decide +kernel
theorem dX9_customers_70 : decode cX9_customers 70 = .ok (.iconst 1, 1) := by decide +kernel
theorem dX9_customers_71 : decode cX9_customers 71 = .ok (.iadd, 1) := by decide +kernel
theorem dX9_customers_72 : decode cX9_customers 72 = .ok (.iaload, 1) := by decide +kernel
theorem dX9_customers_73 : decode cX9_customers 73 = .ok (.aload_n 0, 1) := by decide +kernel
theorem dX9_customers_74 : decode cX9_customers 74 = .ok (.getfield 40, 3) := by decide +kernel
theorem dX9_customers_77 : decode cX9_customers 77 = .ok (.iload 4, 2) := by decide +kernel
theorem dX9_customers_79 : decode cX9_customers 79 = .ok (.iconst 3, 1) := by decide +kernel
theorem dX9_customers_80 : decode cX9_customers 80 = .ok (.iload_n 3, 1) := by decide +kernel
theorem dX9_customers_81 : decode cX9_customers 81 = .ok (.imul, 1) := by decide +kernel
theorem dX9_customers_82 : decode cX9_customers 82 = .ok (.iadd, 1) := by decide +kernel
theorem dX9_customers_83 : decode cX9_customers 83 = .ok (.iconst 2, 1) := by decide +kernel
theorem dX9_customers_84 : decode cX9_customers 84 = .ok (.iadd, 1) := by decide +kernel
theorem dX9_customers_85 : decode cX9_customers 85 = .ok (.iaload, 1) := by decide +kernel
theorem dX9_customers_86 : decode cX9_customers 86 = .ok (.invokestatic 89, 3) := by decide +kernel
theorem dX9_customers_89 : decode cX9_customers 89 = .ok (.ifCond .eq 50, 3) := by decide +kernel
theorem dX9_customers_92 : decode cX9_customers 92 = .ok (.aload_n 0, 1) := by decide +kernel
theorem dX9_customers_93 : decode cX9_customers 93 = .ok (.aload_n 0, 1) := by decide +kernel
theorem dX9_customers_94 : decode cX9_customers 94 = .ok (.getfield 40, 3) := by decide +kernel
theorem dX9_customers_97 : decode cX9_customers 97 = .ok (.iload 4, 2) := by decide +kernel
theorem dX9_customers_99 : decode cX9_customers 99 = .ok (.iconst 3, 1) := by decide +kernel
theorem dX9_customers_100 : decode cX9_customers 100 = .ok (.iload_n 3, 1) := by decide +kernel
theorem dX9_customers_101 : decode cX9_customers 101 = .ok (.imul, 1) := by decide +kernel
theorem dX9_customers_102 : decode cX9_customers 102 = .ok (.iadd, 1) := by decide +kernel
theorem dX9_customers_103 : decode cX9_customers 103 = .ok (.iaload, 1) := by decide +kernel
theorem dX9_customers_104 : decode cX9_customers 104 = .ok (.aload_n 0, 1) := by decide +kernel
theorem dX9_customers_105 : decode cX9_customers 105 = .ok (.getfield 40, 3) := by decide +kernel
theorem dX9_customers_108 : decode cX9_customers 108 = .ok (.iload 4, 2) := by decide +kernel
theorem dX9_customers_110 : decode cX9_customers 110 = .ok (.iconst 3, 1) := by decide +kernel
theorem dX9_customers_111 : decode cX9_customers 111 = .ok (.iload_n 3, 1) := by decide +kernel
theorem dX9_customers_112 : decode cX9_customers 112 = .ok (.imul, 1) := by decide +kernel
theorem dX9_customers_113 : decode cX9_customers 113 = .ok (.iadd, 1) := by decide +kernel
theorem dX9_customers_114 : decode cX9_customers 114 = .ok (.iconst 1, 1) := by decide +kernel
theorem dX9_customers_115 : decode cX9_customers 115 = .ok (.iadd, 1) := by decide +kernel
theorem dX9_customers_116 : decode cX9_customers 116 = .ok (.iaload, 1) := by decide +kernel
theorem dX9_customers_117 : decode cX9_customers 117 = .ok (.aload_n 0, 1) := by decide +kernel
theorem dX9_customers_118 : decode cX9_customers 118 = .ok (.getfield 40, 3) := by decide +kernel
theorem dX9_customers_121 : decode cX9_customers 121 = .ok (.iload 4, 2) := by decide +kernel
theorem dX9_customers_123 : decode cX9_customers 123 = .ok (.iconst 3, 1) := by decide +kernel
theorem dX9_customers_124 : decode cX9_customers 124 = .ok (.iload_n 3, 1) := by decide +kernel
theorem dX9_customers_125 : decode cX9_customers 125 = .ok (.imul, 1) := by decide +kernel
theorem dX9_customers_126 : decode cX9_customers 126 = .ok (.iadd, 1) := by decide +kernel
theorem dX9_customers_127 : decode cX9_customers 127 = .ok (.iconst 2, 1) := by decide +kernel
theorem dX9_customers_128 : decode cX9_customers 128 = .ok (.iadd, 1) := by decide +kernel
theorem dX9_customers_129 : decode cX9_customers 129 = .ok (.iaload, 1) := by decide +kernel
theorem dX9_customers_130 : decode cX9_customers 130 = .ok (.invokevirtual 92, 3) := by decide +kernel
theorem dX9_customers_133 : decode cX9_customers 133 = .ok (.iinc 3 1, 3) := by decide +kernel
theorem dX9_customers_136 : decode cX9_customers 136 = .ok (.goto (-112), 3) := by decide +kernel
theorem dX9_customers_139 : decode cX9_customers 139 = .ok (.iload_n 3, 1) := by decide +kernel
theorem dX9_customers_140 : decode cX9_customers 140 = .ok (.ireturn, 1) := by decide +kernel
theorem dX9_judge_0 : decode cX9_judge 0 = .ok (.aload_n 0, 1) := by decide +kernel
theorem dX9_judge_1 : decode cX9_judge 1 = .ok (.iload_n 1, 1) := by decide +kernel
theorem dX9_judge_2 : decode cX9_judge 2 = .ok (.invokevirtual 268, 3) := by decide +kernel
theorem dX9_judge_5 : decode cX9_judge 5 = .ok (.istore_n 2, 1) := by decide +kernel
theorem dX9_judge_6 : decode cX9_judge 6 = .ok (.iload_n 2, 1) := by decide +kernel
theorem dX9_judge_7 : decode cX9_judge 7 = .ok (.ifCond .le 9, 3) := by decide +kernel
theorem dX9_judge_10 : decode cX9_judge 10 = .ok (.aload_n 0, 1) := by decide +kernel
theorem dX9_judge_11 : decode cX9_judge 11 = .ok (.iload_n 2, 1) := by decide +kernel
theorem dX9_judge_12 : decode cX9_judge 12 = .ok (.invokevirtual 70, 3) := by decide +kernel
theorem dX9_judge_15 : decode cX9_judge 15 = .ok (.ireturn, 1) := by decide +kernel
theorem dX9_judge_16 : decode cX9_judge 16 = .ok (.aload_n 0, 1) := by decide +kernel
theorem dX9_judge_17 : decode cX9_judge 17 = .ok (.getfield 7, 3) := by decide +kernel
theorem dX9_judge_20 : decode cX9_judge 20 = .ok (.aload_n 0, 1) := by decide +kernel
theorem dX9_judge_21 : decode cX9_judge 21 = .ok (.getfield 16, 3) := by decide +kernel
theorem dX9_judge_24 : decode cX9_judge 24 = .ok (.invokestatic 215, 3) := by decide +kernel
theorem dX9_judge_27 : decode cX9_judge 27 = .ok (.iconst 0, 1) := by decide +kernel
theorem dX9_judge_28 : decode cX9_judge 28 = .ok (.istore_n 3, 1) := by decide +kernel
theorem dX9_judge_29 : decode cX9_judge 29 = .ok (.iconst 1, 1) := by decide +kernel
theorem dX9_judge_30 : decode cX9_judge 30 = .ok (.istore 4, 2) := by decide +kernel
theorem dX9_judge_32 : decode cX9_judge 32 = .ok (.iload 4, 2) := by decide +kernel
theorem dX9_judge_34 : decode cX9_judge 34 = .ok (.ifCond .eq 119, 3) := by decide +kernel
theorem dX9_judge_37 : decode cX9_judge 37 = .ok (.iconst 2, 1) := by decide +kernel
theorem dX9_judge_38 : decode cX9_judge 38 = .ok (.iload_n 3, 1) := by decide +kernel
theorem dX9_judge_39 : decode cX9_judge 39 = .ok (.imul, 1) := by decide +kernel
theorem dX9_judge_40 : decode cX9_judge 40 = .ok (.iconst 1, 1) := by decide +kernel
theorem dX9_judge_41 : decode cX9_judge 41 = .ok (.iadd, 1) := by decide +kernel
theorem dX9_judge_42 : decode cX9_judge 42 = .ok (.aload_n 0, 1) := by decide +kernel
theorem dX9_judge_43 : decode cX9_judge 43 = .ok (.getfield 37, 3) := by decide +kernel
theorem dX9_judge_46 : decode cX9_judge 46 = .ok (.iload_n 1, 1) := by decide +kernel
theorem dX9_judge_47 : decode cX9_judge 47 = .ok (.iaload, 1) := by decide +kernel
theorem dX9_judge_48 : decode cX9_judge 48 = .ok (.if_icmp .ge 105, 3) := by decide +kernel
theorem dX9_judge_51 : decode cX9_judge 51 = .ok (.aload_n 0, 1) := by decide +kernel
theorem dX9_judge_52 : decode cX9_judge 52 = .ok (.getfield 40, 3) := by decide +kernel
theorem dX9_judge_55 : decode cX9_judge 55 = .ok (.bipush 24, 2) := by decide +kernel
theorem dX9_judge_57 : decode cX9_judge 57 = .ok (.iload_n 1, 1) := by decide +kernel
theorem dX9_judge_58 : decode cX9_judge 58 = .ok (.imul, 1) := by decide +kernel
theorem dX9_judge_59 : decode cX9_judge 59 = .ok (.iconst 2, 1) := by decide +kernel
theorem dX9_judge_60 : decode cX9_judge 60 = .ok (.iload_n 3, 1) := by decide +kernel
theorem dX9_judge_61 : decode cX9_judge 61 = .ok (.imul, 1) := by decide +kernel
theorem dX9_judge_62 : decode cX9_judge 62 = .ok (.iadd, 1) := by decide +kernel
theorem dX9_judge_63 : decode cX9_judge 63 = .ok (.iaload, 1) := by decide +kernel
theorem dX9_judge_64 : decode cX9_judge 64 = .ok (.istore 5, 2) := by decide +kernel
theorem dX9_judge_66 : decode cX9_judge 66 = .ok (.aload_n 0, 1) := by decide +kernel
theorem dX9_judge_67 : decode cX9_judge 67 = .ok (.getfield 40, 3) := by decide +kernel
theorem dX9_judge_70 : decode cX9_judge 70 = .ok (.bipush 24, 2) := by decide +kernel
theorem dX9_judge_72 : decode cX9_judge 72 = .ok (.iload_n 1, 1) := by decide +kernel
theorem dX9_judge_73 : decode cX9_judge 73 = .ok (.imul, 1) := by decide +kernel
theorem dX9_judge_74 : decode cX9_judge 74 = .ok (.iconst 2, 1) := by decide +kernel
theorem dX9_judge_75 : decode cX9_judge 75 = .ok (.iload_n 3, 1) := by decide +kernel
theorem dX9_judge_76 : decode cX9_judge 76 = .ok (.imul, 1) := by decide +kernel
theorem dX9_judge_77 : decode cX9_judge 77 = .ok (.iadd, 1) := by decide +kernel
theorem dX9_judge_78 : decode cX9_judge 78 = .ok (.iconst 1, 1) := by decide +kernel
theorem dX9_judge_79 : decode cX9_judge 79 = .ok (.iadd, 1) := by decide +kernel
theorem dX9_judge_80 : decode cX9_judge 80 = .ok (.iaload, 1) := by decide +kernel
theorem dX9_judge_81 : decode cX9_judge 81 = .ok (.istore 6, 2) := by decide +kernel
theorem dX9_judge_83 : decode cX9_judge 83 = .ok (.aload_n 0, 1) := by decide +kernel
theorem dX9_judge_84 : decode cX9_judge 84 = .ok (.iload 5, 2) := by decide +kernel
theorem dX9_judge_86 : decode cX9_judge 86 = .ok (.invokevirtual 80, 3) := by decide +kernel
theorem dX9_judge_89 : decode cX9_judge 89 = .ok (.ifCond .eq 26, 3) := by decide +kernel
theorem dX9_judge_92 : decode cX9_judge 92 = .ok (.iload 6, 2) := by decide +kernel
theorem dX9_judge_94 : decode cX9_judge 94 = .ok (.invokestatic 66, 3) := by decide +kernel
theorem dX9_judge_97 : decode cX9_judge 97 = .ok (.ifCond .eq 18, 3) := by decide +kernel
theorem dX9_judge_100 : decode cX9_judge 100 = .ok (.aload_n 0, 1) := by decide +kernel
theorem dX9_judge_101 : decode cX9_judge 101 = .ok (.iload 5, 2) := by decide +kernel
theorem dX9_judge_103 : decode cX9_judge 103 = .ok (.iload 6, 2) := by decide +kernel
theorem dX9_judge_105 : decode cX9_judge 105 = .ok (.invokevirtual 62, 3) := by decide +kernel
theorem dX9_judge_108 : decode cX9_judge 108 = .ok (.ifCond .eq 7, 3) := by decide +kernel
theorem dX9_judge_111 : decode cX9_judge 111 = .ok (.iconst 1, 1) := by decide +kernel
theorem dX9_judge_112 : decode cX9_judge 112 = .ok (.goto 4, 3) := by decide +kernel
theorem dX9_judge_115 : decode cX9_judge 115 = .ok (.iconst 0, 1) := by decide +kernel
theorem dX9_judge_116 : decode cX9_judge 116 = .ok (.istore 4, 2) := by decide +kernel
theorem dX9_judge_118 : decode cX9_judge 118 = .ok (.iload 4, 2) := by decide +kernel
theorem dX9_judge_120 : decode cX9_judge 120 = .ok (.ifCond .eq 30, 3) := by decide +kernel
theorem dX9_judge_123 : decode cX9_judge 123 = .ok (.aload_n 0, 1) := by decide +kernel
theorem dX9_judge_124 : decode cX9_judge 124 = .ok (.iload 5, 2) := by decide +kernel
theorem dX9_judge_126 : decode cX9_judge 126 = .ok (.bipush 9, 2) := by decide +kernel
theorem dX9_judge_128 : decode cX9_judge 128 = .ok (.iload 6, 2) := by decide +kernel
theorem dX9_judge_130 : decode cX9_judge 130 = .ok (.iadd, 1) := by decide +kernel
theorem dX9_judge_131 : decode cX9_judge 131 = .ok (.aload_n 0, 1) := by decide +kernel
theorem dX9_judge_132 : decode cX9_judge 132 = .ok (.iload 5, 2) := by decide +kernel
theorem dX9_judge_134 : decode cX9_judge 134 = .ok (.bipush 9, 2) := by decide +kernel
theorem dX9_judge_136 : decode cX9_judge 136 = .ok (.iload 6, 2) := by decide +kernel
theorem dX9_judge_138 : decode cX9_judge 138 = .ok (.iadd, 1) := by decide +kernel
theorem dX9_judge_139 : decode cX9_judge 139 = .ok (.invokevirtual 51, 3) := by decide +kernel
theorem dX9_judge_142 : decode cX9_judge 142 = .ok (.iconst 1, 1) := by decide +kernel
theorem dX9_judge_143 : decode cX9_judge 143 = .ok (.isub, 1) := by decide +kernel
theorem dX9_judge_144 : decode cX9_judge 144 = .ok (.invokevirtual 73, 3) := by decide +kernel
theorem dX9_judge_147 : decode cX9_judge 147 = .ok (.iinc 3 1, 3) := by decide +kernel
theorem dX9_judge_150 : decode cX9_judge 150 = .ok (.goto (-118), 3) := by decide +kernel
theorem dX9_judge_153 : decode cX9_judge 153 = .ok (.aload_n 0, 1) := by decide +kernel
theorem dX9_judge_154 : decode cX9_judge 154 = .ok (.getfield 16, 3) := by decide +kernel
theorem dX9_judge_157 : decode cX9_judge 157 = .ok (.aload_n 0, 1) := by decide +kernel
theorem dX9_judge_158 : decode cX9_judge 158 = .ok (.getfield 7, 3) := by decide +kernel
theorem dX9_judge_161 : decode cX9_judge 161 = .ok (.invokestatic 215, 3) := by decide +kernel
theorem dX9_judge_164 : decode cX9_judge 164 = .ok (.iload_n 3, 1) := by decide +kernel
theorem dX9_judge_165 : decode cX9_judge 165 = .ok (.ireturn, 1) := by decide +kernel
theorem dX9_leaves_0 : decode cX9_leaves 0 = .ok (.aload_n 0, 1) := by decide +kernel
theorem dX9_leaves_1 : decode cX9_leaves 1 = .ok (.getfield 7, 3) := by decide +kernel
theorem dX9_leaves_4 : decode cX9_leaves 4 = .ok (.aload_n 0, 1) := by decide +kernel
theorem dX9_leaves_5 : decode cX9_leaves 5 = .ok (.getfield 16, 3) := by decide +kernel
theorem dX9_leaves_8 : decode cX9_leaves 8 = .ok (.invokestatic 215, 3) := by decide +kernel
theorem dX9_leaves_11 : decode cX9_leaves 11 = .ok (.iconst 0, 1) := by decide +kernel
theorem dX9_leaves_12 : decode cX9_leaves 12 = .ok (.istore 4, 2) := by decide +kernel
theorem dX9_leaves_14 : decode cX9_leaves 14 = .ok (.iload 4, 2) := by decide +kernel
theorem dX9_leaves_16 : decode cX9_leaves 16 = .ok (.aload_n 0, 1) := by decide +kernel
theorem dX9_leaves_17 : decode cX9_leaves 17 = .ok (.getfield 7, 3) := by decide +kernel
theorem dX9_leaves_20 : decode cX9_leaves 20 = .ok (.iconst 1, 1) := by decide +kernel
theorem dX9_leaves_21 : decode cX9_leaves 21 = .ok (.iaload, 1) := by decide +kernel
theorem dX9_leaves_22 : decode cX9_leaves 22 = .ok (.if_icmp .ge 31, 3) := by decide +kernel
theorem dX9_leaves_25 : decode cX9_leaves 25 = .ok (.iload_n 3, 1) := by decide +kernel
theorem dX9_leaves_26 : decode cX9_leaves 26 = .ok (.iload 4, 2) := by decide +kernel
theorem dX9_leaves_28 : decode cX9_leaves 28 = .ok (.ishr, 1) := by decide +kernel
theorem dX9_leaves_29 : decode cX9_leaves 29 = .ok (.iconst 1, 1) := by decide +kernel
theorem dX9_leaves_30 : decode cX9_leaves 30 = .ok (.iand, 1) := by decide +kernel
theorem dX9_leaves_31 : decode cX9_leaves 31 = .ok (.iconst 1, 1) := by decide +kernel
theorem dX9_leaves_32 : decode cX9_leaves 32 = .ok (.if_icmp .ne 12, 3) := by decide +kernel
theorem dX9_leaves_35 : decode cX9_leaves 35 = .ok (.aload_n 0, 1) := by decide +kernel
theorem dX9_leaves_36 : decode cX9_leaves 36 = .ok (.iload 4, 2) := by decide +kernel
theorem dX9_leaves_38 : decode cX9_leaves 38 = .ok (.invokevirtual 198, 3) := by decide +kernel
theorem dX9_leaves_41 : decode cX9_leaves 41 = .ok (.goto 4, 3) := by decide +kernel
theorem dX9_leaves_44 : decode cX9_leaves 44 = .ok (.iconst 0, 1) := by decide +kernel
theorem dX9_leaves_45 : decode cX9_leaves 45 = .ok (.istore 5, 2) := by decide +kernel
theorem dX9_leaves_47 : decode cX9_leaves 47 = .ok (.iinc 4 1, 3) := by decide +kernel
theorem dX9_leaves_50 : decode cX9_leaves 50 = .ok (.goto (-36), 3) := by decide +kernel
theorem dX9_leaves_53 : decode cX9_leaves 53 = .ok (.iconst 1, 1) := by decide +kernel
theorem dX9_leaves_54 : decode cX9_leaves 54 = .ok (.istore 4, 2) := by decide +kernel
theorem dX9_leaves_56 : decode cX9_leaves 56 = .ok (.iconst 0, 1) := by decide +kernel
theorem dX9_leaves_57 : decode cX9_leaves 57 = .ok (.istore 5, 2) := by decide +kernel
theorem dX9_leaves_59 : decode cX9_leaves 59 = .ok (.iload 5, 2) := by decide +kernel
theorem dX9_leaves_61 : decode cX9_leaves 61 = .ok (.bipush 6, 2) := by decide +kernel
theorem dX9_leaves_63 : decode cX9_leaves 63 = .ok (.if_icmp .ge 46, 3) := by decide +kernel
theorem dX9_leaves_66 : decode cX9_leaves 66 = .ok (.iload 4, 2) := by decide +kernel
theorem dX9_leaves_68 : decode cX9_leaves 68 = .ok (.ifCond .eq 32, 3) := by decide +kernel
theorem dX9_leaves_71 : decode cX9_leaves 71 = .ok (.aload_n 0, 1) := by decide +kernel
theorem dX9_leaves_72 : decode cX9_leaves 72 = .ok (.iload_n 2, 1) := by decide +kernel
theorem dX9_leaves_73 : decode cX9_leaves 73 = .ok (.bipush 9, 2) := by decide +kernel
theorem dX9_leaves_75 : decode cX9_leaves 75 = .ok (.iload 5, 2) := by decide +kernel
theorem dX9_leaves_77 : decode cX9_leaves 77 = .ok (.iadd, 1) := by decide +kernel
theorem dX9_leaves_78 : decode cX9_leaves 78 = .ok (.invokevirtual 51, 3) := by decide +kernel
theorem dX9_leaves_81 : decode cX9_leaves 81 = .ok (.aload_n 0, 1) := by decide +kernel
theorem dX9_leaves_82 : decode cX9_leaves 82 = .ok (.getfield 40, 3) := by decide +kernel
theorem dX9_leaves_85 : decode cX9_leaves 85 = .ok (.bipush 24, 2) := by decide +kernel
theorem dX9_leaves_87 : decode cX9_leaves 87 = .ok (.iload_n 1, 1) := by decide +kernel
theorem dX9_leaves_88 : decode cX9_leaves 88 = .ok (.imul, 1) := by decide +kernel
theorem dX9_leaves_89 : decode cX9_leaves 89 = .ok (.iload 5, 2) := by decide +kernel
theorem dX9_leaves_91 : decode cX9_leaves 91 = .ok (.iadd, 1) := by decide +kernel
theorem dX9_leaves_92 : decode cX9_leaves 92 = .ok (.iaload, 1) := by decide +kernel
theorem dX9_leaves_93 : decode cX9_leaves 93 = .ok (.if_icmp .ne 7, 3) := by decide +kernel
theorem dX9_leaves_96 : decode cX9_leaves 96 = .ok (.iconst 1, 1) := by decide +kernel
theorem dX9_leaves_97 : decode cX9_leaves 97 = .ok (.goto 4, 3) := by decide +kernel
theorem dX9_leaves_100 : decode cX9_leaves 100 = .ok (.iconst 0, 1) := by decide +kernel
theorem dX9_leaves_101 : decode cX9_leaves 101 = .ok (.istore 4, 2) := by decide +kernel
theorem dX9_leaves_103 : decode cX9_leaves 103 = .ok (.iinc 5 1, 3) := by decide +kernel
theorem dX9_leaves_106 : decode cX9_leaves 106 = .ok (.goto (-47), 3) := by decide +kernel
theorem dX9_leaves_109 : decode cX9_leaves 109 = .ok (.aload_n 0, 1) := by decide +kernel
theorem dX9_leaves_110 : decode cX9_leaves 110 = .ok (.getfield 16, 3) := by decide +kernel
theorem dX9_leaves_113 : decode cX9_leaves 113 = .ok (.aload_n 0, 1) := by decide +kernel
theorem dX9_leaves_114 : decode cX9_leaves 114 = .ok (.getfield 7, 3) := by decide +kernel
theorem dX9_leaves_117 : decode cX9_leaves 117 = .ok (.invokestatic 215, 3) := by decide +kernel
theorem dX9_leaves_120 : decode cX9_leaves 120 = .ok (.iload 4, 2) := by decide +kernel
theorem dX9_leaves_122 : decode cX9_leaves 122 = .ok (.ireturn, 1) := by decide +kernel
theorem dX9_came_0 : decode cX9_came 0 = .ok (.aload_n 0, 1) := by decide +kernel
theorem dX9_came_1 : decode cX9_came 1 = .ok (.iload_n 2, 1) := by decide +kernel
theorem dX9_came_2 : decode cX9_came 2 = .ok (.invokevirtual 80, 3) := by decide +kernel
theorem dX9_came_5 : decode cX9_came 5 = .ok (.ifCond .eq 20, 3) := by decide +kernel
theorem dX9_came_8 : decode cX9_came 8 = .ok (.iload_n 3, 1) := by decide +kernel
theorem dX9_came_9 : decode cX9_came 9 = .ok (.iconst 0, 1) := by decide +kernel
theorem dX9_came_10 : decode cX9_came 10 = .ok (.iconst 3, 1) := by decide +kernel
theorem dX9_came_11 : decode cX9_came 11 = .ok (.invokestatic 47, 3) := by decide +kernel
theorem dX9_came_14 : decode cX9_came 14 = .ok (.ifCond .eq 11, 3) := by decide +kernel
theorem dX9_came_17 : decode cX9_came 17 = .ok (.aload_n 0, 1) := by decide +kernel
theorem dX9_came_18 : decode cX9_came 18 = .ok (.iload_n 1, 1) := by decide +kernel
theorem dX9_came_19 : decode cX9_came 19 = .ok (.invokevirtual 268, 3) := by decide +kernel
theorem dX9_came_22 : decode cX9_came 22 = .ok (.goto 4, 3) := by decide +kernel
theorem dX9_came_25 : decode cX9_came 25 = .ok (.iconst 1, 1) := by decide +kernel
theorem dX9_came_26 : decode cX9_came 26 = .ok (.istore 4, 2) := by decide +kernel
theorem dX9_came_28 : decode cX9_came 28 = .ok (.iload 4, 2) := by decide +kernel
theorem dX9_came_30 : decode cX9_came 30 = .ok (.ifCond .ne 18, 3) := by decide +kernel
theorem dX9_came_33 : decode cX9_came 33 = .ok (.aload_n 0, 1) := by decide +kernel
theorem dX9_came_34 : decode cX9_came 34 = .ok (.getfield 37, 3) := by decide +kernel
theorem dX9_came_37 : decode cX9_came 37 = .ok (.iload_n 1, 1) := by decide +kernel
theorem dX9_came_38 : decode cX9_came 38 = .ok (.iaload, 1) := by decide +kernel
theorem dX9_came_39 : decode cX9_came 39 = .ok (.bipush 6, 2) := by decide +kernel
theorem dX9_came_41 : decode cX9_came 41 = .ok (.if_icmp .ge 7, 3) := by decide +kernel
theorem dX9_came_44 : decode cX9_came 44 = .ok (.iconst 2, 1) := by decide +kernel
theorem dX9_came_45 : decode cX9_came 45 = .ok (.goto 5, 3) := by decide +kernel
theorem dX9_came_48 : decode cX9_came 48 = .ok (.iload 4, 2) := by decide +kernel
theorem dX9_came_50 : decode cX9_came 50 = .ok (.istore 4, 2) := by decide +kernel
theorem dX9_came_52 : decode cX9_came 52 = .ok (.iload 4, 2) := by decide +kernel
theorem dX9_came_54 : decode cX9_came 54 = .ok (.ifCond .le 10, 3) := by decide +kernel
theorem dX9_came_57 : decode cX9_came 57 = .ok (.aload_n 0, 1) := by decide +kernel
theorem dX9_came_58 : decode cX9_came 58 = .ok (.iload 4, 2) := by decide +kernel
theorem dX9_came_60 : decode cX9_came 60 = .ok (.invokevirtual 70, 3) := by decide +kernel
theorem dX9_came_63 : decode cX9_came 63 = .ok (.ireturn, 1) := by decide +kernel
theorem dX9_came_64 : decode cX9_came 64 = .ok (.iconst 0, 1) := by decide +kernel
theorem dX9_came_65 : decode cX9_came 65 = .ok (.istore 5, 2) := by decide +kernel
theorem dX9_came_67 : decode cX9_came 67 = .ok (.iconst (-1), 1) := by decide +kernel
theorem dX9_came_68 : decode cX9_came 68 = .ok (.istore 6, 2) := by decide +kernel
theorem dX9_came_70 : decode cX9_came 70 = .ok (.iconst 1, 1) := by decide +kernel
theorem dX9_came_71 : decode cX9_came 71 = .ok (.aload_n 0, 1) := by decide +kernel
theorem dX9_came_72 : decode cX9_came 72 = .ok (.getfield 7, 3) := by decide +kernel
theorem dX9_came_75 : decode cX9_came 75 = .ok (.iconst 1, 1) := by decide +kernel
theorem dX9_came_76 : decode cX9_came 76 = .ok (.iaload, 1) := by decide +kernel
theorem dX9_came_77 : decode cX9_came 77 = .ok (.ishl, 1) := by decide +kernel
theorem dX9_came_78 : decode cX9_came 78 = .ok (.iconst 1, 1) := by decide +kernel
theorem dX9_came_79 : decode cX9_came 79 = .ok (.isub, 1) := by decide +kernel
theorem dX9_came_80 : decode cX9_came 80 = .ok (.istore 7, 2) := by decide +kernel
theorem dX9_came_82 : decode cX9_came 82 = .ok (.iconst 0, 1) := by decide +kernel
theorem dX9_came_83 : decode cX9_came 83 = .ok (.istore 8, 2) := by decide +kernel
theorem dX9_came_85 : decode cX9_came 85 = .ok (.iconst 0, 1) := by decide +kernel
theorem dX9_came_86 : decode cX9_came 86 = .ok (.istore 9, 2) := by decide +kernel
theorem dX9_came_88 : decode cX9_came 88 = .ok (.iload 9, 2) := by decide +kernel
theorem dX9_came_90 : decode cX9_came 90 = .ok (.iconst 1, 1) := by decide +kernel
theorem dX9_came_91 : decode cX9_came 91 = .ok (.aload_n 0, 1) := by decide +kernel
theorem dX9_came_92 : decode cX9_came 92 = .ok (.getfield 7, 3) := by decide +kernel
theorem dX9_came_95 : decode cX9_came 95 = .ok (.iconst 1, 1) := by decide +kernel
theorem dX9_came_96 : decode cX9_came 96 = .ok (.iaload, 1) := by decide +kernel
theorem dX9_came_97 : decode cX9_came 97 = .ok (.ishl, 1) := by decide +kernel
theorem dX9_came_98 : decode cX9_came 98 = .ok (.if_icmp .ge 52, 3) := by decide +kernel
theorem dX9_came_101 : decode cX9_came 101 = .ok (.aload_n 0, 1) := by decide +kernel
theorem dX9_came_102 : decode cX9_came 102 = .ok (.iload_n 1, 1) := by decide +kernel
theorem dX9_came_103 : decode cX9_came 103 = .ok (.iload_n 2, 1) := by decide +kernel
theorem dX9_came_104 : decode cX9_came 104 = .ok (.iload 9, 2) := by decide +kernel
theorem dX9_came_106 : decode cX9_came 106 = .ok (.invokevirtual 271, 3) := by decide +kernel
theorem dX9_came_109 : decode cX9_came 109 = .ok (.ifCond .eq 35, 3) := by decide +kernel
theorem dX9_came_112 : decode cX9_came 112 = .ok (.iinc 5 1, 3) := by decide +kernel
theorem dX9_came_115 : decode cX9_came 115 = .ok (.iload 6, 2) := by decide +kernel
theorem dX9_came_117 : decode cX9_came 117 = .ok (.iconst (-1), 1) := by decide +kernel
theorem dX9_came_118 : decode cX9_came 118 = .ok (.if_icmp .ne 8, 3) := by decide +kernel
theorem dX9_came_121 : decode cX9_came 121 = .ok (.iload 9, 2) := by decide +kernel
theorem dX9_came_123 : decode cX9_came 123 = .ok (.goto 5, 3) := by decide +kernel
theorem dX9_came_126 : decode cX9_came 126 = .ok (.iload 6, 2) := by decide +kernel
theorem dX9_came_128 : decode cX9_came 128 = .ok (.istore 6, 2) := by decide +kernel
theorem dX9_came_130 : decode cX9_came 130 = .ok (.iload 7, 2) := by decide +kernel
theorem dX9_came_132 : decode cX9_came 132 = .ok (.iload 9, 2) := by decide +kernel
theorem dX9_came_134 : decode cX9_came 134 = .ok (.iand, 1) := by decide +kernel
theorem dX9_came_135 : decode cX9_came 135 = .ok (.istore 7, 2) := by decide +kernel
theorem dX9_came_137 : decode cX9_came 137 = .ok (.iload 8, 2) := by decide +kernel
theorem dX9_came_139 : decode cX9_came 139 = .ok (.iload 9, 2) := by decide +kernel
theorem dX9_came_141 : decode cX9_came 141 = .ok (.ior, 1) := by decide +kernel
theorem dX9_came_142 : decode cX9_came 142 = .ok (.istore 8, 2) := by decide +kernel
theorem dX9_came_144 : decode cX9_came 144 = .ok (.iinc 9 1, 3) := by decide +kernel
theorem dX9_came_147 : decode cX9_came 147 = .ok (.goto (-59), 3) := by decide +kernel
theorem dX9_came_150 : decode cX9_came 150 = .ok (.iload 5, 2) := by decide +kernel
theorem dX9_came_152 : decode cX9_came 152 = .ok (.ifCond .ne 19, 3) := by decide +kernel
theorem dX9_came_155 : decode cX9_came 155 = .ok (.iload_n 3, 1) := by decide +kernel
theorem dX9_came_156 : decode cX9_came 156 = .ok (.iconst 1, 1) := by decide +kernel
theorem dX9_came_157 : decode cX9_came 157 = .ok (.if_icmp .eq 8, 3) := by decide +kernel
theorem dX9_came_160 : decode cX9_came 160 = .ok (.iload_n 3, 1) := by decide +kernel
theorem dX9_came_161 : decode cX9_came 161 = .ok (.iconst 2, 1) := by decide +kernel
theorem dX9_came_162 : decode cX9_came 162 = .ok (.if_icmp .ne 9, 3) := by decide +kernel
theorem dX9_came_165 : decode cX9_came 165 = .ok (.aload_n 0, 1) := by decide +kernel
theorem dX9_came_166 : decode cX9_came 166 = .ok (.iconst 2, 1) := by decide +kernel
theorem dX9_came_167 : decode cX9_came 167 = .ok (.invokevirtual 70, 3) := by decide +kernel
theorem dX9_came_170 : decode cX9_came 170 = .ok (.ireturn, 1) := by decide +kernel
theorem dX9_came_171 : decode cX9_came 171 = .ok (.iload_n 3, 1) := by decide +kernel
theorem dX9_came_172 : decode cX9_came 172 = .ok (.ifCond .ne 8, 3) := by decide +kernel
theorem dX9_came_175 : decode cX9_came 175 = .ok (.iload 5, 2) := by decide +kernel
theorem dX9_came_177 : decode cX9_came 177 = .ok (.goto 25, 3) := by decide +kernel
theorem dX9_came_180 : decode cX9_came 180 = .ok (.iload_n 3, 1) := by decide +kernel
theorem dX9_came_181 : decode cX9_came 181 = .ok (.iconst 1, 1) := by decide +kernel
theorem dX9_came_182 : decode cX9_came 182 = .ok (.if_icmp .ne 8, 3) := by decide +kernel
theorem dX9_came_185 : decode cX9_came 185 = .ok (.iload 6, 2) := by decide +kernel
theorem dX9_came_187 : decode cX9_came 187 = .ok (.goto 15, 3) := by decide +kernel
theorem dX9_came_190 : decode cX9_came 190 = .ok (.iload_n 3, 1) := by decide +kernel
theorem dX9_came_191 : decode cX9_came 191 = .ok (.iconst 2, 1) := by decide +kernel
theorem dX9_came_192 : decode cX9_came 192 = .ok (.if_icmp .ne 8, 3) := by decide +kernel
theorem dX9_came_195 : decode cX9_came 195 = .ok (.iload 7, 2) := by decide +kernel
theorem dX9_came_197 : decode cX9_came 197 = .ok (.goto 5, 3) := by decide +kernel
theorem dX9_came_200 : decode cX9_came 200 = .ok (.iload 8, 2) := by decide +kernel
theorem dX9_came_202 : decode cX9_came 202 = .ok (.ireturn, 1) := by decide +kernel
theorem dX9_image_0 : decode cX9_image 0 = .ok (.aload_n 0, 1) := by decide +kernel
theorem dX9_image_1 : decode cX9_image 1 = .ok (.getfield 7, 3) := by decide +kernel
theorem dX9_image_4 : decode cX9_image 4 = .ok (.aload_n 0, 1) := by decide +kernel
theorem dX9_image_5 : decode cX9_image 5 = .ok (.getfield 13, 3) := by decide +kernel
theorem dX9_image_8 : decode cX9_image 8 = .ok (.invokestatic 215, 3) := by decide +kernel
theorem dX9_image_11 : decode cX9_image 11 = .ok (.aload_n 0, 1) := by decide +kernel
theorem dX9_image_12 : decode cX9_image 12 = .ok (.dup, 1) := by decide +kernel
theorem dX9_image_13 : decode cX9_image 13 = .ok (.getfield 274, 3) := by decide +kernel
theorem dX9_image_16 : decode cX9_image 16 = .ok (.iconst 1, 1) := by decide +kernel
theorem dX9_image_17 : decode cX9_image 17 = .ok (.iadd, 1) := by decide +kernel
theorem dX9_image_18 : decode cX9_image 18 = .ok (.putfield 274, 3) := by decide +kernel
theorem dX9_image_21 : decode cX9_image 21 = .ok (.aload_n 0, 1) := by decide +kernel
theorem dX9_image_22 : decode cX9_image 22 = .ok (.getfield 274, 3) := by decide +kernel
theorem dX9_image_25 : decode cX9_image 25 = .ok (.ireturn, 1) := by decide +kernel
theorem dX9_restore_0 : decode cX9_restore 0 = .ok (.aload_n 0, 1) := by decide +kernel
theorem dX9_restore_1 : decode cX9_restore 1 = .ok (.getfield 274, 3) := by decide +kernel
theorem dX9_restore_4 : decode cX9_restore 4 = .ok (.ifCond .ne 9, 3) := by decide +kernel
theorem dX9_restore_7 : decode cX9_restore 7 = .ok (.aload_n 0, 1) := by decide +kernel
theorem dX9_restore_8 : decode cX9_restore 8 = .ok (.iconst 2, 1) := by decide +kernel
theorem dX9_restore_9 : decode cX9_restore 9 = .ok (.invokevirtual 70, 3) := by decide +kernel
theorem dX9_restore_12 : decode cX9_restore 12 = .ok (.ireturn, 1) := by decide +kernel
theorem dX9_restore_13 : decode cX9_restore 13 = .ok (.aload_n 0, 1) := by decide +kernel
theorem dX9_restore_14 : decode cX9_restore 14 = .ok (.getfield 13, 3) := by decide +kernel
theorem dX9_restore_17 : decode cX9_restore 17 = .ok (.aload_n 0, 1) := by decide +kernel
theorem dX9_restore_18 : decode cX9_restore 18 = .ok (.getfield 7, 3) := by decide +kernel
theorem dX9_restore_21 : decode cX9_restore 21 = .ok (.invokestatic 215, 3) := by decide +kernel
theorem dX9_restore_24 : decode cX9_restore 24 = .ok (.aload_n 0, 1) := by decide +kernel
theorem dX9_restore_25 : decode cX9_restore 25 = .ok (.getfield 7, 3) := by decide +kernel
theorem dX9_restore_28 : decode cX9_restore 28 = .ok (.iconst 2, 1) := by decide +kernel
theorem dX9_restore_29 : decode cX9_restore 29 = .ok (.iaload, 1) := by decide +kernel
theorem dX9_restore_30 : decode cX9_restore 30 = .ok (.ireturn, 1) := by decide +kernel
theorem dX9_tell_0 : decode cX9_tell 0 = .ok (.aload_n 0, 1) := by decide +kernel
theorem dX9_tell_1 : decode cX9_tell 1 = .ok (.getfield 7, 3) := by decide +kernel
theorem dX9_tell_4 : decode cX9_tell 4 = .ok (.bipush 7, 2) := by decide +kernel
theorem dX9_tell_6 : decode cX9_tell 6 = .ok (.iaload, 1) := by decide +kernel
theorem dX9_tell_7 : decode cX9_tell 7 = .ok (.bipush 24, 2) := by decide +kernel
theorem dX9_tell_9 : decode cX9_tell 9 = .ok (.if_icmp .ne 9, 3) := by decide +kernel
theorem dX9_tell_12 : decode cX9_tell 12 = .ok (.aload_n 0, 1) := by decide +kernel
theorem dX9_tell_13 : decode cX9_tell 13 = .ok (.iconst 4, 1) := by decide +kernel
theorem dX9_tell_14 : decode cX9_tell 14 = .ok (.invokevirtual 70, 3) := by decide +kernel
theorem dX9_tell_17 : decode cX9_tell 17 = .ok (.ireturn, 1) := by decide +kernel
theorem dX9_tell_18 : decode cX9_tell 18 = .ok (.aload_n 0, 1) := by decide +kernel
theorem dX9_tell_19 : decode cX9_tell 19 = .ok (.getfield 7, 3) := by decide +kernel
theorem dX9_tell_22 : decode cX9_tell 22 = .ok (.sipush 492, 3) := by decide +kernel
theorem dX9_tell_25 : decode cX9_tell 25 = .ok (.aload_n 0, 1) := by decide +kernel
theorem dX9_tell_26 : decode cX9_tell 26 = .ok (.getfield 7, 3) := by decide +kernel
theorem dX9_tell_29 : decode cX9_tell 29 = .ok (.bipush 7, 2) := by decide +kernel
theorem dX9_tell_31 : decode cX9_tell 31 = .ok (.iaload, 1) := by decide +kernel
theorem dX9_tell_32 : decode cX9_tell 32 = .ok (.iadd, 1) := by decide +kernel
theorem dX9_tell_33 : decode cX9_tell 33 = .ok (.iload_n 1, 1) := by decide +kernel
theorem dX9_tell_34 : decode cX9_tell 34 = .ok (.iastore, 1) := by decide +kernel
theorem dX9_tell_35 : decode cX9_tell 35 = .ok (.aload_n 0, 1) := by decide +kernel
theorem dX9_tell_36 : decode cX9_tell 36 = .ok (.getfield 7, 3) := by decide +kernel
theorem dX9_tell_39 : decode cX9_tell 39 = .ok (.bipush 7, 2) := by decide +kernel
theorem dX9_tell_41 : decode cX9_tell 41 = .ok (.dup2, 1) := by decide +kernel
theorem dX9_tell_42 : decode cX9_tell 42 = .ok (.iaload, 1) := by decide +kernel
theorem dX9_tell_43 : decode cX9_tell 43 = .ok (.iconst 1, 1) := by decide +kernel
theorem dX9_tell_44 : decode cX9_tell 44 = .ok (.iadd, 1) := by decide +kernel
theorem dX9_tell_45 : decode cX9_tell 45 = .ok (.iastore, 1) := by decide +kernel
theorem dX9_tell_46 : decode cX9_tell 46 = .ok (.aload_n 0, 1) := by decide +kernel
theorem dX9_tell_47 : decode cX9_tell 47 = .ok (.getfield 7, 3) := by decide +kernel
theorem dX9_tell_50 : decode cX9_tell 50 = .ok (.bipush 7, 2) := by decide +kernel
theorem dX9_tell_52 : decode cX9_tell 52 = .ok (.iaload, 1) := by decide +kernel
theorem dX9_tell_53 : decode cX9_tell 53 = .ok (.ireturn, 1) := by decide +kernel
theorem dX9_check_0 : decode cX9_check 0 = .ok (.aload_n 0, 1) := by decide +kernel
theorem dX9_check_1 : decode cX9_check 1 = .ok (.getfield 7, 3) := by decide +kernel
theorem dX9_check_4 : decode cX9_check 4 = .ok (.bipush 7, 2) := by decide +kernel
theorem dX9_check_6 : decode cX9_check 6 = .ok (.iaload, 1) := by decide +kernel
theorem dX9_check_7 : decode cX9_check 7 = .ok (.istore_n 1, 1) := by decide +kernel
theorem dX9_check_8 : decode cX9_check 8 = .ok (.aload_n 0, 1) := by decide +kernel
theorem dX9_check_9 : decode cX9_check 9 = .ok (.getfield 7, 3) := by decide +kernel
theorem dX9_check_12 : decode cX9_check 12 = .ok (.bipush 7, 2) := by decide +kernel
theorem dX9_check_14 : decode cX9_check 14 = .ok (.iconst 0, 1) := by decide +kernel
theorem dX9_check_15 : decode cX9_check 15 = .ok (.iastore, 1) := by decide +kernel
theorem dX9_check_16 : decode cX9_check 16 = .ok (.aload_n 0, 1) := by decide +kernel
theorem dX9_check_17 : decode cX9_check 17 = .ok (.getfield 7, 3) := by decide +kernel
theorem dX9_check_20 : decode cX9_check 20 = .ok (.aload_n 0, 1) := by decide +kernel
theorem dX9_check_21 : decode cX9_check 21 = .ok (.getfield 16, 3) := by decide +kernel
theorem dX9_check_24 : decode cX9_check 24 = .ok (.invokestatic 215, 3) := by decide +kernel
theorem dX9_check_27 : decode cX9_check 27 = .ok (.iconst 0, 1) := by decide +kernel
theorem dX9_check_28 : decode cX9_check 28 = .ok (.istore_n 2, 1) := by decide +kernel
theorem dX9_check_29 : decode cX9_check 29 = .ok (.iconst 1, 1) := by decide +kernel
theorem dX9_check_30 : decode cX9_check 30 = .ok (.istore_n 3, 1) := by decide +kernel
theorem dX9_check_31 : decode cX9_check 31 = .ok (.iload_n 2, 1) := by decide +kernel
theorem dX9_check_32 : decode cX9_check 32 = .ok (.iload_n 1, 1) := by decide +kernel
theorem dX9_check_33 : decode cX9_check 33 = .ok (.if_icmp .ge 52, 3) := by decide +kernel
theorem dX9_check_36 : decode cX9_check 36 = .ok (.iload_n 3, 1) := by decide +kernel
theorem dX9_check_37 : decode cX9_check 37 = .ok (.ifCond .eq 48, 3) := by decide +kernel
theorem dX9_check_40 : decode cX9_check 40 = .ok (.aload_n 0, 1) := by decide +kernel
theorem dX9_check_41 : decode cX9_check 41 = .ok (.iconst 0, 1) := by decide +kernel
theorem dX9_check_42 : decode cX9_check 42 = .ok (.invokevirtual 208, 3) := by decide +kernel
theorem dX9_check_45 : decode cX9_check 45 = .ok (.aload_n 0, 1) := by decide +kernel
theorem dX9_check_46 : decode cX9_check 46 = .ok (.getfield 7, 3) := by decide +kernel
theorem dX9_check_49 : decode cX9_check 49 = .ok (.sipush 492, 3) := by decide +kernel
theorem dX9_check_52 : decode cX9_check 52 = .ok (.iload_n 2, 1) := by decide +kernel
theorem dX9_check_53 : decode cX9_check 53 = .ok (.iadd, 1) := by decide +kernel
theorem dX9_check_54 : decode cX9_check 54 = .ok (.iaload, 1) := by decide +kernel
theorem dX9_check_55 : decode cX9_check 55 = .ok (.aload_n 0, 1) := by decide +kernel
theorem dX9_check_56 : decode cX9_check 56 = .ok (.getfield 7, 3) := by decide +kernel
theorem dX9_check_59 : decode cX9_check 59 = .ok (.iconst 3, 1) := by decide +kernel
theorem dX9_check_60 : decode cX9_check 60 = .ok (.iaload, 1) := by decide +kernel
theorem dX9_check_61 : decode cX9_check 61 = .ok (.if_icmp .ne 7, 3) := by decide +kernel
theorem dX9_check_64 : decode cX9_check 64 = .ok (.iconst 1, 1) := by decide +kernel
theorem dX9_check_65 : decode cX9_check 65 = .ok (.goto 4, 3) := by decide +kernel
theorem dX9_check_68 : decode cX9_check 68 = .ok (.iconst 0, 1) := by decide +kernel
theorem dX9_check_69 : decode cX9_check 69 = .ok (.istore_n 3, 1) := by decide +kernel
theorem dX9_check_70 : decode cX9_check 70 = .ok (.iload_n 2, 1) := by decide +kernel
theorem dX9_check_71 : decode cX9_check 71 = .ok (.iload_n 3, 1) := by decide +kernel
theorem dX9_check_72 : decode cX9_check 72 = .ok (.ifCond .eq 7, 3) := by decide +kernel
theorem dX9_check_75 : decode cX9_check 75 = .ok (.iconst 1, 1) := by decide +kernel
theorem dX9_check_76 : decode cX9_check 76 = .ok (.goto 4, 3) := by decide +kernel
theorem dX9_check_79 : decode cX9_check 79 = .ok (.iconst 0, 1) := by decide +kernel
theorem dX9_check_80 : decode cX9_check 80 = .ok (.iadd, 1) := by decide +kernel
theorem dX9_check_81 : decode cX9_check 81 = .ok (.istore_n 2, 1) := by decide +kernel
theorem dX9_check_82 : decode cX9_check 82 = .ok (.goto (-51), 3) := by decide +kernel
theorem dX9_check_85 : decode cX9_check 85 = .ok (.aload_n 0, 1) := by decide +kernel
theorem dX9_check_86 : decode cX9_check 86 = .ok (.getfield 16, 3) := by decide +kernel
theorem dX9_check_89 : decode cX9_check 89 = .ok (.aload_n 0, 1) := by decide +kernel
theorem dX9_check_90 : decode cX9_check 90 = .ok (.getfield 7, 3) := by decide +kernel
theorem dX9_check_93 : decode cX9_check 93 = .ok (.invokestatic 215, 3) := by decide +kernel
theorem dX9_check_96 : decode cX9_check 96 = .ok (.iload_n 3, 1) := by decide +kernel
theorem dX9_check_97 : decode cX9_check 97 = .ok (.ifCond .eq 7, 3) := by decide +kernel
theorem dX9_check_100 : decode cX9_check 100 = .ok (.iconst 0, 1) := by decide +kernel
theorem dX9_check_101 : decode cX9_check 101 = .ok (.goto 6, 3) := by decide +kernel
theorem dX9_check_104 : decode cX9_check 104 = .ok (.iconst 1, 1) := by decide +kernel
theorem dX9_check_105 : decode cX9_check 105 = .ok (.iload_n 2, 1) := by decide +kernel
theorem dX9_check_106 : decode cX9_check 106 = .ok (.iadd, 1) := by decide +kernel
theorem dX9_check_107 : decode cX9_check 107 = .ok (.ireturn, 1) := by decide +kernel
theorem dX9_count_0 : decode cX9_count 0 = .ok (.iconst 0, 1) := by decide +kernel
theorem dX9_count_1 : decode cX9_count 1 = .ok (.istore_n 2, 1) := by decide +kernel
theorem dX9_count_2 : decode cX9_count 2 = .ok (.iconst 0, 1) := by decide +kernel
theorem dX9_count_3 : decode cX9_count 3 = .ok (.istore_n 3, 1) := by decide +kernel
theorem dX9_count_4 : decode cX9_count 4 = .ok (.iload_n 3, 1) := by decide +kernel
theorem dX9_count_5 : decode cX9_count 5 = .ok (.aload_n 0, 1) := by decide +kernel
theorem dX9_count_6 : decode cX9_count 6 = .ok (.getfield 7, 3) := by decide +kernel
theorem dX9_count_9 : decode cX9_count 9 = .ok (.iconst 0, 1) := by decide +kernel
theorem dX9_count_10 : decode cX9_count 10 = .ok (.iaload, 1) := by decide +kernel
theorem dX9_count_11 : decode cX9_count 11 = .ok (.if_icmp .ge 18, 3) := by decide +kernel
theorem dX9_count_14 : decode cX9_count 14 = .ok (.iload_n 2, 1) := by decide +kernel
theorem dX9_count_15 : decode cX9_count 15 = .ok (.aload_n 0, 1) := by decide +kernel
theorem dX9_count_16 : decode cX9_count 16 = .ok (.iload_n 3, 1) := by decide +kernel
theorem dX9_count_17 : decode cX9_count 17 = .ok (.iconst 2, 1) := by decide +kernel
theorem dX9_count_18 : decode cX9_count 18 = .ok (.invokevirtual 51, 3) := by decide +kernel
theorem dX9_count_21 : decode cX9_count 21 = .ok (.iadd, 1) := by decide +kernel
theorem dX9_count_22 : decode cX9_count 22 = .ok (.istore_n 2, 1) := by decide +kernel
theorem dX9_count_23 : decode cX9_count 23 = .ok (.iinc 3 1, 3) := by decide +kernel
theorem dX9_count_26 : decode cX9_count 26 = .ok (.goto (-22), 3) := by decide +kernel
theorem dX9_count_29 : decode cX9_count 29 = .ok (.iload_n 1, 1) := by decide +kernel
theorem dX9_count_30 : decode cX9_count 30 = .ok (.tableswitch 131 0 10 #[58, 65, 72, 79, 86, 93, 100, 102, 110, 118, 123], 58) := by decide +kernel
theorem dX9_count_88 : decode cX9_count 88 = .ok (.aload_n 0, 1) := by decide +kernel
theorem dX9_count_89 : decode cX9_count 89 = .ok (.getfield 7, 3) := by decide +kernel
theorem dX9_count_92 : decode cX9_count 92 = .ok (.iconst 0, 1) := by decide +kernel
theorem dX9_count_93 : decode cX9_count 93 = .ok (.iaload, 1) := by decide +kernel
theorem dX9_count_94 : decode cX9_count 94 = .ok (.ireturn, 1) := by decide +kernel
theorem dX9_count_95 : decode cX9_count 95 = .ok (.aload_n 0, 1) := by decide +kernel
theorem dX9_count_96 : decode cX9_count 96 = .ok (.getfield 7, 3) := by decide +kernel
theorem dX9_count_99 : decode cX9_count 99 = .ok (.iconst 1, 1) := by decide +kernel
theorem dX9_count_100 : decode cX9_count 100 = .ok (.iaload, 1) := by decide +kernel
theorem dX9_count_101 : decode cX9_count 101 = .ok (.ireturn, 1) := by decide +kernel
theorem dX9_count_102 : decode cX9_count 102 = .ok (.aload_n 0, 1) := by decide +kernel
theorem dX9_count_103 : decode cX9_count 103 = .ok (.getfield 7, 3) := by decide +kernel
theorem dX9_count_106 : decode cX9_count 106 = .ok (.iconst 2, 1) := by decide +kernel
theorem dX9_count_107 : decode cX9_count 107 = .ok (.iaload, 1) := by decide +kernel
theorem dX9_count_108 : decode cX9_count 108 = .ok (.ireturn, 1) := by decide +kernel
theorem dX9_count_109 : decode cX9_count 109 = .ok (.aload_n 0, 1) := by decide +kernel
theorem dX9_count_110 : decode cX9_count 110 = .ok (.getfield 7, 3) := by decide +kernel
theorem dX9_count_113 : decode cX9_count 113 = .ok (.iconst 3, 1) := by decide +kernel
theorem dX9_count_114 : decode cX9_count 114 = .ok (.iaload, 1) := by decide +kernel
theorem dX9_count_115 : decode cX9_count 115 = .ok (.ireturn, 1) := by decide +kernel
theorem dX9_count_116 : decode cX9_count 116 = .ok (.aload_n 0, 1) := by decide +kernel
theorem dX9_count_117 : decode cX9_count 117 = .ok (.getfield 7, 3) := by decide +kernel
theorem dX9_count_120 : decode cX9_count 120 = .ok (.iconst 4, 1) := by decide +kernel
theorem dX9_count_121 : decode cX9_count 121 = .ok (.iaload, 1) := by decide +kernel
theorem dX9_count_122 : decode cX9_count 122 = .ok (.ireturn, 1) := by decide +kernel
theorem dX9_count_123 : decode cX9_count 123 = .ok (.aload_n 0, 1) := by decide +kernel
theorem dX9_count_124 : decode cX9_count 124 = .ok (.getfield 7, 3) := by decide +kernel
theorem dX9_count_127 : decode cX9_count 127 = .ok (.iconst 5, 1) := by decide +kernel
theorem dX9_count_128 : decode cX9_count 128 = .ok (.iaload, 1) := by decide +kernel
theorem dX9_count_129 : decode cX9_count 129 = .ok (.ireturn, 1) := by decide +kernel
theorem dX9_count_130 : decode cX9_count 130 = .ok (.iload_n 2, 1) := by decide +kernel
theorem dX9_count_131 : decode cX9_count 131 = .ok (.ireturn, 1) := by decide +kernel
theorem dX9_count_132 : decode cX9_count 132 = .ok (.aload_n 0, 1) := by decide +kernel
theorem dX9_count_133 : decode cX9_count 133 = .ok (.getfield 7, 3) := by decide +kernel
theorem dX9_count_136 : decode cX9_count 136 = .ok (.bipush 6, 2) := by decide +kernel
theorem dX9_count_138 : decode cX9_count 138 = .ok (.iaload, 1) := by decide +kernel
theorem dX9_count_139 : decode cX9_count 139 = .ok (.ireturn, 1) := by decide +kernel
theorem dX9_count_140 : decode cX9_count 140 = .ok (.aload_n 0, 1) := by decide +kernel
theorem dX9_count_141 : decode cX9_count 141 = .ok (.getfield 7, 3) := by decide +kernel
theorem dX9_count_144 : decode cX9_count 144 = .ok (.bipush 7, 2) := by decide +kernel
theorem dX9_count_146 : decode cX9_count 146 = .ok (.iaload, 1) := by decide +kernel
theorem dX9_count_147 : decode cX9_count 147 = .ok (.ireturn, 1) := by decide +kernel
theorem dX9_count_148 : decode cX9_count 148 = .ok (.aload_n 0, 1) := by decide +kernel
theorem dX9_count_149 : decode cX9_count 149 = .ok (.getfield 231, 3) := by decide +kernel
theorem dX9_count_152 : decode cX9_count 152 = .ok (.ireturn, 1) := by decide +kernel
theorem dX9_count_153 : decode cX9_count 153 = .ok (.aload_n 0, 1) := by decide +kernel
theorem dX9_count_154 : decode cX9_count 154 = .ok (.getfield 7, 3) := by decide +kernel
theorem dX9_count_157 : decode cX9_count 157 = .ok (.bipush 8, 2) := by decide +kernel
theorem dX9_count_159 : decode cX9_count 159 = .ok (.iaload, 1) := by decide +kernel
theorem dX9_count_160 : decode cX9_count 160 = .ok (.ireturn, 1) := by decide +kernel
theorem dX9_count_161 : decode cX9_count 161 = .ok (.iload_n 1, 1) := by decide +kernel
theorem dX9_count_162 : decode cX9_count 162 = .ok (.bipush 11, 2) := by decide +kernel
theorem dX9_count_164 : decode cX9_count 164 = .ok (.bipush 16, 2) := by decide +kernel
theorem dX9_count_166 : decode cX9_count 166 = .ok (.invokestatic 47, 3) := by decide +kernel
theorem dX9_count_169 : decode cX9_count 169 = .ok (.ifCond .eq 18, 3) := by decide +kernel
theorem dX9_count_172 : decode cX9_count 172 = .ok (.aload_n 0, 1) := by decide +kernel
theorem dX9_count_173 : decode cX9_count 173 = .ok (.getfield 7, 3) := by decide +kernel
theorem dX9_count_176 : decode cX9_count 176 = .ok (.bipush 10, 2) := by decide +kernel
theorem dX9_count_178 : decode cX9_count 178 = .ok (.iload_n 1, 1) := by decide +kernel
theorem dX9_count_179 : decode cX9_count 179 = .ok (.iadd, 1) := by decide +kernel
theorem dX9_count_180 : decode cX9_count 180 = .ok (.bipush 11, 2) := by decide +kernel
theorem dX9_count_182 : decode cX9_count 182 = .ok (.isub, 1) := by decide +kernel
theorem dX9_count_183 : decode cX9_count 183 = .ok (.iaload, 1) := by decide +kernel
theorem dX9_count_184 : decode cX9_count 184 = .ok (.goto 8, 3) := by decide +kernel
theorem dX9_count_187 : decode cX9_count 187 = .ok (.aload_n 0, 1) := by decide +kernel
theorem dX9_count_188 : decode cX9_count 188 = .ok (.iconst 1, 1) := by decide +kernel
theorem dX9_count_189 : decode cX9_count 189 = .ok (.invokevirtual 70, 3) := by decide +kernel
theorem dX9_count_192 : decode cX9_count 192 = .ok (.ireturn, 1) := by decide +kernel
theorem dX9_told_0 : decode cX9_told 0 = .ok (.iload_n 1, 1) := by decide +kernel
theorem dX9_told_1 : decode cX9_told 1 = .ok (.iconst 1, 1) := by decide +kernel
theorem dX9_told_2 : decode cX9_told 2 = .ok (.bipush 6, 2) := by decide +kernel
theorem dX9_told_4 : decode cX9_told 4 = .ok (.invokestatic 47, 3) := by decide +kernel
theorem dX9_told_7 : decode cX9_told 7 = .ok (.ifCond .eq 12, 3) := by decide +kernel
theorem dX9_told_10 : decode cX9_told 10 = .ok (.aload_n 0, 1) := by decide +kernel
theorem dX9_told_11 : decode cX9_told 11 = .ok (.getfield 19, 3) := by decide +kernel
theorem dX9_told_14 : decode cX9_told 14 = .ok (.iload_n 1, 1) := by decide +kernel
theorem dX9_told_15 : decode cX9_told 15 = .ok (.iaload, 1) := by decide +kernel
theorem dX9_told_16 : decode cX9_told 16 = .ok (.goto 8, 3) := by decide +kernel
theorem dX9_told_19 : decode cX9_told 19 = .ok (.aload_n 0, 1) := by decide +kernel
theorem dX9_told_20 : decode cX9_told 20 = .ok (.iconst 1, 1) := by decide +kernel
theorem dX9_told_21 : decode cX9_told 21 = .ok (.invokevirtual 70, 3) := by decide +kernel
theorem dX9_told_24 : decode cX9_told 24 = .ok (.ireturn, 1) := by decide +kernel
end
section
theorem dJ11_isValidCodePoint_9a6ad_0 : decode cJ11_isValidCodePoint_9a6ad 0 = .ok (.iload_n 0, 1) := by decide +kernel
theorem dJ11_isValidCodePoint_9a6ad_1 : decode cJ11_isValidCodePoint_9a6ad 1 = .ok (.bipush 16, 2) := by decide +kernel
theorem dJ11_isValidCodePoint_9a6ad_3 : decode cJ11_isValidCodePoint_9a6ad 3 = .ok (.iushr, 1) := by decide +kernel
theorem dJ11_isValidCodePoint_9a6ad_4 : decode cJ11_isValidCodePoint_9a6ad 4 = .ok (.istore_n 1, 1) := by decide +kernel
theorem dJ11_isValidCodePoint_9a6ad_5 : decode cJ11_isValidCodePoint_9a6ad 5 = .ok (.iload_n 1, 1) := by decide +kernel
theorem dJ11_isValidCodePoint_9a6ad_6 : decode cJ11_isValidCodePoint_9a6ad 6 = .ok (.bipush 17, 2) := by decide +kernel
theorem dJ11_isValidCodePoint_9a6ad_8 : decode cJ11_isValidCodePoint_9a6ad 8 = .ok (.if_icmp .ge 7, 3) := by decide +kernel
theorem dJ11_isValidCodePoint_9a6ad_11 : decode cJ11_isValidCodePoint_9a6ad 11 = .ok (.iconst 1, 1) := by decide +kernel
theorem dJ11_isValidCodePoint_9a6ad_12 : decode cJ11_isValidCodePoint_9a6ad 12 = .ok (.goto 4, 3) := by decide +kernel
theorem dJ11_isValidCodePoint_9a6ad_15 : decode cJ11_isValidCodePoint_9a6ad 15 = .ok (.iconst 0, 1) := by decide +kernel
theorem dJ11_isValidCodePoint_9a6ad_16 : decode cJ11_isValidCodePoint_9a6ad 16 = .ok (.ireturn, 1) := by decide +kernel
theorem dJ11_highSurrogate_5068e_0 : decode cJ11_highSurrogate_5068e 0 = .ok (.iload_n 0, 1) := by decide +kernel
theorem dJ11_highSurrogate_5068e_1 : decode cJ11_highSurrogate_5068e 1 = .ok (.bipush 10, 2) := by decide +kernel
theorem dJ11_highSurrogate_5068e_3 : decode cJ11_highSurrogate_5068e 3 = .ok (.iushr, 1) := by decide +kernel
theorem dJ11_highSurrogate_5068e_4 : decode cJ11_highSurrogate_5068e 4 = .ok (.ldc 110, 2) := by decide +kernel
theorem dJ11_highSurrogate_5068e_6 : decode cJ11_highSurrogate_5068e 6 = .ok (.iadd, 1) := by decide +kernel
theorem dJ11_highSurrogate_5068e_7 : decode cJ11_highSurrogate_5068e 7 = .ok (.i2c, 1) := by decide +kernel
theorem dJ11_highSurrogate_5068e_8 : decode cJ11_highSurrogate_5068e 8 = .ok (.ireturn, 1) := by decide +kernel
theorem dJ11_lowSurrogate_5068e_0 : decode cJ11_lowSurrogate_5068e 0 = .ok (.iload_n 0, 1) := by decide +kernel
theorem dJ11_lowSurrogate_5068e_1 : decode cJ11_lowSurrogate_5068e 1 = .ok (.sipush 1023, 3) := by decide +kernel
theorem dJ11_lowSurrogate_5068e_4 : decode cJ11_lowSurrogate_5068e 4 = .ok (.iand, 1) := by decide +kernel
theorem dJ11_lowSurrogate_5068e_5 : decode cJ11_lowSurrogate_5068e 5 = .ok (.ldc 76, 2) := by decide +kernel
theorem dJ11_lowSurrogate_5068e_7 : decode cJ11_lowSurrogate_5068e 7 = .ok (.iadd, 1) := by decide +kernel
theorem dJ11_lowSurrogate_5068e_8 : decode cJ11_lowSurrogate_5068e 8 = .ok (.i2c, 1) := by decide +kernel
theorem dJ11_lowSurrogate_5068e_9 : decode cJ11_lowSurrogate_5068e 9 = .ok (.ireturn, 1) := by decide +kernel
theorem dJ6_bitCount_0f7a4_0 : decode cJ6_bitCount_0f7a4 0 = .ok (.iload_n 0, 1) := by decide +kernel
theorem dJ6_bitCount_0f7a4_1 : decode cJ6_bitCount_0f7a4 1 = .ok (.iload_n 0, 1) := by decide +kernel
theorem dJ6_bitCount_0f7a4_2 : decode cJ6_bitCount_0f7a4 2 = .ok (.iconst 1, 1) := by decide +kernel
theorem dJ6_bitCount_0f7a4_3 : decode cJ6_bitCount_0f7a4 3 = .ok (.iushr, 1) := by decide +kernel
theorem dJ6_bitCount_0f7a4_4 : decode cJ6_bitCount_0f7a4 4 = .ok (.ldc_w 265, 3) := by decide +kernel
theorem dJ6_bitCount_0f7a4_7 : decode cJ6_bitCount_0f7a4 7 = .ok (.iand, 1) := by decide +kernel
theorem dJ6_bitCount_0f7a4_8 : decode cJ6_bitCount_0f7a4 8 = .ok (.isub, 1) := by decide +kernel
theorem dJ6_bitCount_0f7a4_9 : decode cJ6_bitCount_0f7a4 9 = .ok (.istore_n 0, 1) := by decide +kernel
theorem dJ6_bitCount_0f7a4_10 : decode cJ6_bitCount_0f7a4 10 = .ok (.iload_n 0, 1) := by decide +kernel
theorem dJ6_bitCount_0f7a4_11 : decode cJ6_bitCount_0f7a4 11 = .ok (.ldc_w 266, 3) := by decide +kernel
theorem dJ6_bitCount_0f7a4_14 : decode cJ6_bitCount_0f7a4 14 = .ok (.iand, 1) := by decide +kernel
theorem dJ6_bitCount_0f7a4_15 : decode cJ6_bitCount_0f7a4 15 = .ok (.iload_n 0, 1) := by decide +kernel
theorem dJ6_bitCount_0f7a4_16 : decode cJ6_bitCount_0f7a4 16 = .ok (.iconst 2, 1) := by decide +kernel
theorem dJ6_bitCount_0f7a4_17 : decode cJ6_bitCount_0f7a4 17 = .ok (.iushr, 1) := by decide +kernel
theorem dJ6_bitCount_0f7a4_18 : decode cJ6_bitCount_0f7a4 18 = .ok (.ldc_w 266, 3) := by decide +kernel
theorem dJ6_bitCount_0f7a4_21 : decode cJ6_bitCount_0f7a4 21 = .ok (.iand, 1) := by decide +kernel
theorem dJ6_bitCount_0f7a4_22 : decode cJ6_bitCount_0f7a4 22 = .ok (.iadd, 1) := by decide +kernel
theorem dJ6_bitCount_0f7a4_23 : decode cJ6_bitCount_0f7a4 23 = .ok (.istore_n 0, 1) := by decide +kernel
theorem dJ6_bitCount_0f7a4_24 : decode cJ6_bitCount_0f7a4 24 = .ok (.iload_n 0, 1) := by decide +kernel
theorem dJ6_bitCount_0f7a4_25 : decode cJ6_bitCount_0f7a4 25 = .ok (.iload_n 0, 1) := by decide +kernel
theorem dJ6_bitCount_0f7a4_26 : decode cJ6_bitCount_0f7a4 26 = .ok (.iconst 4, 1) := by decide +kernel
theorem dJ6_bitCount_0f7a4_27 : decode cJ6_bitCount_0f7a4 27 = .ok (.iushr, 1) := by decide +kernel
theorem dJ6_bitCount_0f7a4_28 : decode cJ6_bitCount_0f7a4 28 = .ok (.iadd, 1) := by decide +kernel
theorem dJ6_bitCount_0f7a4_29 : decode cJ6_bitCount_0f7a4 29 = .ok (.ldc_w 267, 3) := by decide +kernel
theorem dJ6_bitCount_0f7a4_32 : decode cJ6_bitCount_0f7a4 32 = .ok (.iand, 1) := by decide +kernel
theorem dJ6_bitCount_0f7a4_33 : decode cJ6_bitCount_0f7a4 33 = .ok (.istore_n 0, 1) := by decide +kernel
theorem dJ6_bitCount_0f7a4_34 : decode cJ6_bitCount_0f7a4 34 = .ok (.iload_n 0, 1) := by decide +kernel
theorem dJ6_bitCount_0f7a4_35 : decode cJ6_bitCount_0f7a4 35 = .ok (.iload_n 0, 1) := by decide +kernel
theorem dJ6_bitCount_0f7a4_36 : decode cJ6_bitCount_0f7a4 36 = .ok (.bipush 8, 2) := by decide +kernel
theorem dJ6_bitCount_0f7a4_38 : decode cJ6_bitCount_0f7a4 38 = .ok (.iushr, 1) := by decide +kernel
theorem dJ6_bitCount_0f7a4_39 : decode cJ6_bitCount_0f7a4 39 = .ok (.iadd, 1) := by decide +kernel
theorem dJ6_bitCount_0f7a4_40 : decode cJ6_bitCount_0f7a4 40 = .ok (.istore_n 0, 1) := by decide +kernel
theorem dJ6_bitCount_0f7a4_41 : decode cJ6_bitCount_0f7a4 41 = .ok (.iload_n 0, 1) := by decide +kernel
theorem dJ6_bitCount_0f7a4_42 : decode cJ6_bitCount_0f7a4 42 = .ok (.iload_n 0, 1) := by decide +kernel
theorem dJ6_bitCount_0f7a4_43 : decode cJ6_bitCount_0f7a4 43 = .ok (.bipush 16, 2) := by decide +kernel
theorem dJ6_bitCount_0f7a4_45 : decode cJ6_bitCount_0f7a4 45 = .ok (.iushr, 1) := by decide +kernel
theorem dJ6_bitCount_0f7a4_46 : decode cJ6_bitCount_0f7a4 46 = .ok (.iadd, 1) := by decide +kernel
theorem dJ6_bitCount_0f7a4_47 : decode cJ6_bitCount_0f7a4 47 = .ok (.istore_n 0, 1) := by decide +kernel
theorem dJ6_bitCount_0f7a4_48 : decode cJ6_bitCount_0f7a4 48 = .ok (.iload_n 0, 1) := by decide +kernel
theorem dJ6_bitCount_0f7a4_49 : decode cJ6_bitCount_0f7a4 49 = .ok (.bipush 63, 2) := by decide +kernel
theorem dJ6_bitCount_0f7a4_51 : decode cJ6_bitCount_0f7a4 51 = .ok (.iand, 1) := by decide +kernel
theorem dJ6_bitCount_0f7a4_52 : decode cJ6_bitCount_0f7a4 52 = .ok (.ireturn, 1) := by decide +kernel
theorem dJ9_max_7cf53_0 : decode cJ9_max_7cf53 0 = .ok (.iload_n 0, 1) := by decide +kernel
theorem dJ9_max_7cf53_1 : decode cJ9_max_7cf53 1 = .ok (.iload_n 1, 1) := by decide +kernel
theorem dJ9_max_7cf53_2 : decode cJ9_max_7cf53 2 = .ok (.if_icmp .lt 7, 3) := by decide +kernel
theorem dJ9_max_7cf53_5 : decode cJ9_max_7cf53 5 = .ok (.iload_n 0, 1) := by decide +kernel
theorem dJ9_max_7cf53_6 : decode cJ9_max_7cf53 6 = .ok (.goto 4, 3) := by decide +kernel
theorem dJ9_max_7cf53_9 : decode cJ9_max_7cf53 9 = .ok (.iload_n 1, 1) := by decide +kernel
theorem dJ9_max_7cf53_10 : decode cJ9_max_7cf53 10 = .ok (.ireturn, 1) := by decide +kernel
theorem dJ9_min_7cf53_0 : decode cJ9_min_7cf53 0 = .ok (.iload_n 0, 1) := by decide +kernel
theorem dJ9_min_7cf53_1 : decode cJ9_min_7cf53 1 = .ok (.iload_n 1, 1) := by decide +kernel
theorem dJ9_min_7cf53_2 : decode cJ9_min_7cf53 2 = .ok (.if_icmp .gt 7, 3) := by decide +kernel
theorem dJ9_min_7cf53_5 : decode cJ9_min_7cf53 5 = .ok (.iload_n 0, 1) := by decide +kernel
theorem dJ9_min_7cf53_6 : decode cJ9_min_7cf53 6 = .ok (.goto 4, 3) := by decide +kernel
theorem dJ9_min_7cf53_9 : decode cJ9_min_7cf53 9 = .ok (.iload_n 1, 1) := by decide +kernel
theorem dJ9_min_7cf53_10 : decode cJ9_min_7cf53 10 = .ok (.ireturn, 1) := by decide +kernel
theorem dJ0_length_8abf5_0 : decode cJ0_length_8abf5 0 = .ok (.aload_n 0, 1) := by decide +kernel
theorem dJ0_length_8abf5_1 : decode cJ0_length_8abf5 1 = .ok (.getfield 9, 3) := by decide +kernel
theorem dJ0_length_8abf5_4 : decode cJ0_length_8abf5 4 = .ok (.arraylength, 1) := by decide +kernel
theorem dJ0_length_8abf5_5 : decode cJ0_length_8abf5 5 = .ok (.aload_n 0, 1) := by decide +kernel
theorem dJ0_length_8abf5_6 : decode cJ0_length_8abf5 6 = .ok (.invokevirtual 335, 3) := by decide +kernel
theorem dJ0_length_8abf5_9 : decode cJ0_length_8abf5 9 = .ok (.ishr, 1) := by decide +kernel
theorem dJ0_length_8abf5_10 : decode cJ0_length_8abf5 10 = .ok (.ireturn, 1) := by decide +kernel
theorem dJ0_indexOf_0f7a4_0 : decode cJ0_indexOf_0f7a4 0 = .ok (.aload_n 0, 1) := by decide +kernel
theorem dJ0_indexOf_0f7a4_1 : decode cJ0_indexOf_0f7a4 1 = .ok (.iload_n 1, 1) := by decide +kernel
theorem dJ0_indexOf_0f7a4_2 : decode cJ0_indexOf_0f7a4 2 = .ok (.iconst 0, 1) := by decide +kernel
theorem dJ0_indexOf_0f7a4_3 : decode cJ0_indexOf_0f7a4 3 = .ok (.invokevirtual 633, 3) := by decide +kernel
theorem dJ0_indexOf_0f7a4_6 : decode cJ0_indexOf_0f7a4 6 = .ok (.ireturn, 1) := by decide +kernel
theorem dJ0_indexOf_7cf53_0 : decode cJ0_indexOf_7cf53 0 = .ok (.aload_n 0, 1) := by decide +kernel
theorem dJ0_indexOf_7cf53_1 : decode cJ0_indexOf_7cf53 1 = .ok (.invokevirtual 492, 3) := by decide +kernel
theorem dJ0_indexOf_7cf53_4 : decode cJ0_indexOf_7cf53 4 = .ok (.ifCond .eq 19, 3) := by decide +kernel
theorem dJ0_indexOf_7cf53_7 : decode cJ0_indexOf_7cf53 7 = .ok (.aload_n 0, 1) := by decide +kernel
theorem dJ0_indexOf_7cf53_8 : decode cJ0_indexOf_7cf53 8 = .ok (.getfield 9, 3) := by decide +kernel
theorem dJ0_indexOf_7cf53_11 : decode cJ0_indexOf_7cf53 11 = .ok (.iload_n 1, 1) := by decide +kernel
theorem dJ0_indexOf_7cf53_12 : decode cJ0_indexOf_7cf53 12 = .ok (.iload_n 2, 1) := by decide +kernel
theorem dJ0_indexOf_7cf53_13 : decode cJ0_indexOf_7cf53 13 = .ok (.aload_n 0, 1) := by decide +kernel
theorem dJ0_indexOf_7cf53_14 : decode cJ0_indexOf_7cf53 14 = .ok (.invokevirtual 505, 3) := by decide +kernel
theorem dJ0_indexOf_7cf53_17 : decode cJ0_indexOf_7cf53 17 = .ok (.invokestatic 637, 3) := by decide +kernel
theorem dJ0_indexOf_7cf53_20 : decode cJ0_indexOf_7cf53 20 = .ok (.goto 16, 3) := by decide +kernel
theorem dJ0_indexOf_7cf53_23 : decode cJ0_indexOf_7cf53 23 = .ok (.aload_n 0, 1) := by decide +kernel
theorem dJ0_indexOf_7cf53_24 : decode cJ0_indexOf_7cf53 24 = .ok (.getfield 9, 3) := by decide +kernel
theorem dJ0_indexOf_7cf53_27 : decode cJ0_indexOf_7cf53 27 = .ok (.iload_n 1, 1) := by decide +kernel
theorem dJ0_indexOf_7cf53_28 : decode cJ0_indexOf_7cf53 28 = .ok (.iload_n 2, 1) := by decide +kernel
theorem dJ0_indexOf_7cf53_29 : decode cJ0_indexOf_7cf53 29 = .ok (.aload_n 0, 1) := by decide +kernel
theorem dJ0_indexOf_7cf53_30 : decode cJ0_indexOf_7cf53 30 = .ok (.invokevirtual 505, 3) := by decide +kernel
theorem dJ0_indexOf_7cf53_33 : decode cJ0_indexOf_7cf53 33 = .ok (.invokestatic 640, 3) := by decide +kernel
theorem dJ0_indexOf_7cf53_36 : decode cJ0_indexOf_7cf53 36 = .ok (.ireturn, 1) := by decide +kernel
theorem dJ0_coder_7d493_0 : decode cJ0_coder_7d493 0 = .ok (.getstatic 38, 3) := by decide +kernel
theorem dJ0_coder_7d493_3 : decode cJ0_coder_7d493 3 = .ok (.ifCond .eq 10, 3) := by decide +kernel
theorem dJ0_coder_7d493_6 : decode cJ0_coder_7d493 6 = .ok (.aload_n 0, 1) := by decide +kernel
theorem dJ0_coder_7d493_7 : decode cJ0_coder_7d493 7 = .ok (.getfield 15, 3) := by decide +kernel
theorem dJ0_coder_7d493_10 : decode cJ0_coder_7d493 10 = .ok (.goto 4, 3) := by decide +kernel
theorem dJ0_coder_7d493_13 : decode cJ0_coder_7d493 13 = .ok (.iconst 1, 1) := by decide +kernel
theorem dJ0_coder_7d493_14 : decode cJ0_coder_7d493 14 = .ok (.ireturn, 1) := by decide +kernel
theorem dJ0_isLatin1_aae02_0 : decode cJ0_isLatin1_aae02 0 = .ok (.getstatic 38, 3) := by decide +kernel
theorem dJ0_isLatin1_aae02_3 : decode cJ0_isLatin1_aae02 3 = .ok (.ifCond .eq 14, 3) := by decide +kernel
theorem dJ0_isLatin1_aae02_6 : decode cJ0_isLatin1_aae02 6 = .ok (.aload_n 0, 1) := by decide +kernel
theorem dJ0_isLatin1_aae02_7 : decode cJ0_isLatin1_aae02 7 = .ok (.getfield 15, 3) := by decide +kernel
theorem dJ0_isLatin1_aae02_10 : decode cJ0_isLatin1_aae02 10 = .ok (.ifCond .ne 7, 3) := by decide +kernel
theorem dJ0_isLatin1_aae02_13 : decode cJ0_isLatin1_aae02 13 = .ok (.iconst 1, 1) := by decide +kernel
theorem dJ0_isLatin1_aae02_14 : decode cJ0_isLatin1_aae02 14 = .ok (.goto 4, 3) := by decide +kernel
theorem dJ0_isLatin1_aae02_17 : decode cJ0_isLatin1_aae02 17 = .ok (.iconst 0, 1) := by decide +kernel
theorem dJ0_isLatin1_aae02_18 : decode cJ0_isLatin1_aae02 18 = .ok (.ireturn, 1) := by decide +kernel
theorem dJ0_checkBoundsBeginEnd_23922_0 : decode cJ0_checkBoundsBeginEnd_23922 0 = .ok (.iload_n 0, 1) := by decide +kernel
theorem dJ0_checkBoundsBeginEnd_23922_1 : decode cJ0_checkBoundsBeginEnd_23922 1 = .ok (.iload_n 1, 1) := by decide +kernel
theorem dJ0_checkBoundsBeginEnd_23922_2 : decode cJ0_checkBoundsBeginEnd_23922 2 = .ok (.iload_n 2, 1) := by decide +kernel
theorem dJ0_checkBoundsBeginEnd_23922_3 : decode cJ0_checkBoundsBeginEnd_23922 3 = .ok (.getstatic 1053, 3) := by decide +kernel
theorem dJ0_checkBoundsBeginEnd_23922_6 : decode cJ0_checkBoundsBeginEnd_23922 6 = .ok (.invokestatic 1062, 3) := by decide +kernel
theorem dJ0_checkBoundsBeginEnd_23922_9 : decode cJ0_checkBoundsBeginEnd_23922 9 = .ok (.pop, 1) := by decide +kernel
theorem dJ0_checkBoundsBeginEnd_23922_10 : decode cJ0_checkBoundsBeginEnd_23922 10 = .ok (.return_, 1) := by decide +kernel
theorem dJ1_canEncode_9a6ad_0 : decode cJ1_canEncode_9a6ad 0 = .ok (.iload_n 0, 1) := by decide +kernel
theorem dJ1_canEncode_9a6ad_1 : decode cJ1_canEncode_9a6ad 1 = .ok (.ifCond .lt 14, 3) := by decide +kernel
theorem dJ1_canEncode_9a6ad_4 : decode cJ1_canEncode_9a6ad 4 = .ok (.iload_n 0, 1) := by decide +kernel
theorem dJ1_canEncode_9a6ad_5 : decode cJ1_canEncode_9a6ad 5 = .ok (.sipush 255, 3) := by decide +kernel
theorem dJ1_canEncode_9a6ad_8 : decode cJ1_canEncode_9a6ad 8 = .ok (.if_icmp .gt 7, 3) := by decide +kernel
theorem dJ1_canEncode_9a6ad_11 : decode cJ1_canEncode_9a6ad 11 = .ok (.iconst 1, 1) := by decide +kernel
theorem dJ1_canEncode_9a6ad_12 : decode cJ1_canEncode_9a6ad 12 = .ok (.goto 4, 3) := by decide +kernel
theorem dJ1_canEncode_9a6ad_15 : decode cJ1_canEncode_9a6ad 15 = .ok (.iconst 0, 1) := by decide +kernel
theorem dJ1_canEncode_9a6ad_16 : decode cJ1_canEncode_9a6ad 16 = .ok (.ireturn, 1) := by decide +kernel
theorem dJ1_indexOf_4cfef_0 : decode cJ1_indexOf_4cfef 0 = .ok (.iload_n 1, 1) := by decide +kernel
theorem dJ1_indexOf_4cfef_1 : decode cJ1_indexOf_4cfef 1 = .ok (.invokestatic 88, 3) := by decide +kernel
theorem dJ1_indexOf_4cfef_4 : decode cJ1_indexOf_4cfef 4 = .ok (.ifCond .ne 5, 3) := by decide +kernel
theorem dJ1_indexOf_4cfef_7 : decode cJ1_indexOf_4cfef 7 = .ok (.iconst (-1), 1) := by decide +kernel
theorem dJ1_indexOf_4cfef_8 : decode cJ1_indexOf_4cfef 8 = .ok (.ireturn, 1) := by decide +kernel
theorem dJ1_indexOf_4cfef_9 : decode cJ1_indexOf_4cfef 9 = .ok (.iload_n 2, 1) := by decide +kernel
theorem dJ1_indexOf_4cfef_10 : decode cJ1_indexOf_4cfef 10 = .ok (.iconst 0, 1) := by decide +kernel
theorem dJ1_indexOf_4cfef_11 : decode cJ1_indexOf_4cfef 11 = .ok (.invokestatic 92, 3) := by decide +kernel
theorem dJ1_indexOf_4cfef_14 : decode cJ1_indexOf_4cfef 14 = .ok (.istore_n 2, 1) := by decide +kernel
theorem dJ1_indexOf_4cfef_15 : decode cJ1_indexOf_4cfef 15 = .ok (.iload_n 3, 1) := by decide +kernel
theorem dJ1_indexOf_4cfef_16 : decode cJ1_indexOf_4cfef 16 = .ok (.aload_n 0, 1) := by decide +kernel
theorem dJ1_indexOf_4cfef_17 : decode cJ1_indexOf_4cfef 17 = .ok (.arraylength, 1) := by decide +kernel
theorem dJ1_indexOf_4cfef_18 : decode cJ1_indexOf_4cfef 18 = .ok (.invokestatic 38, 3) := by decide +kernel
theorem dJ1_indexOf_4cfef_21 : decode cJ1_indexOf_4cfef 21 = .ok (.istore_n 3, 1) := by decide +kernel
theorem dJ1_indexOf_4cfef_22 : decode cJ1_indexOf_4cfef 22 = .ok (.iload_n 2, 1) := by decide +kernel
theorem dJ1_indexOf_4cfef_23 : decode cJ1_indexOf_4cfef 23 = .ok (.iload_n 3, 1) := by decide +kernel
theorem dJ1_indexOf_4cfef_24 : decode cJ1_indexOf_4cfef 24 = .ok (.if_icmp .lt 5, 3) := by decide +kernel
theorem dJ1_indexOf_4cfef_27 : decode cJ1_indexOf_4cfef 27 = .ok (.iconst (-1), 1) := by decide +kernel
theorem dJ1_indexOf_4cfef_28 : decode cJ1_indexOf_4cfef 28 = .ok (.ireturn, 1) := by decide +kernel
theorem dJ1_indexOf_4cfef_29 : decode cJ1_indexOf_4cfef 29 = .ok (.aload_n 0, 1) := by decide +kernel
theorem dJ1_indexOf_4cfef_30 : decode cJ1_indexOf_4cfef 30 = .ok (.iload_n 1, 1) := by decide +kernel
theorem dJ1_indexOf_4cfef_31 : decode cJ1_indexOf_4cfef 31 = .ok (.iload_n 2, 1) := by decide +kernel
theorem dJ1_indexOf_4cfef_32 : decode cJ1_indexOf_4cfef 32 = .ok (.iload_n 3, 1) := by decide +kernel
theorem dJ1_indexOf_4cfef_33 : decode cJ1_indexOf_4cfef 33 = .ok (.invokestatic 95, 3) := by decide +kernel
theorem dJ1_indexOf_4cfef_36 : decode cJ1_indexOf_4cfef 36 = .ok (.ireturn, 1) := by decide +kernel
theorem dJ1_indexOfChar_4cfef_0 : decode cJ1_indexOfChar_4cfef 0 = .ok (.iload_n 1, 1) := by decide +kernel
theorem dJ1_indexOfChar_4cfef_1 : decode cJ1_indexOfChar_4cfef 1 = .ok (.i2b, 1) := by decide +kernel
theorem dJ1_indexOfChar_4cfef_2 : decode cJ1_indexOfChar_4cfef 2 = .ok (.istore 4, 2) := by decide +kernel
theorem dJ1_indexOfChar_4cfef_4 : decode cJ1_indexOfChar_4cfef 4 = .ok (.iload_n 2, 1) := by decide +kernel
theorem dJ1_indexOfChar_4cfef_5 : decode cJ1_indexOfChar_4cfef 5 = .ok (.istore 5, 2) := by decide +kernel
theorem dJ1_indexOfChar_4cfef_7 : decode cJ1_indexOfChar_4cfef 7 = .ok (.iload 5, 2) := by decide +kernel
theorem dJ1_indexOfChar_4cfef_9 : decode cJ1_indexOfChar_4cfef 9 = .ok (.iload_n 3, 1) := by decide +kernel
theorem dJ1_indexOfChar_4cfef_10 : decode cJ1_indexOfChar_4cfef 10 = .ok (.if_icmp .ge 21, 3) := by decide +kernel
theorem dJ1_indexOfChar_4cfef_13 : decode cJ1_indexOfChar_4cfef 13 = .ok (.aload_n 0, 1) := by decide +kernel
theorem dJ1_indexOfChar_4cfef_14 : decode cJ1_indexOfChar_4cfef 14 = .ok (.iload 5, 2) := by decide +kernel
theorem dJ1_indexOfChar_4cfef_16 : decode cJ1_indexOfChar_4cfef 16 = .ok (.baload, 1) := by decide +kernel
theorem dJ1_indexOfChar_4cfef_17 : decode cJ1_indexOfChar_4cfef 17 = .ok (.iload 4, 2) := by decide +kernel
theorem dJ1_indexOfChar_4cfef_19 : decode cJ1_indexOfChar_4cfef 19 = .ok (.if_icmp .ne 6, 3) := by decide +kernel
theorem dJ1_indexOfChar_4cfef_22 : decode cJ1_indexOfChar_4cfef 22 = .ok (.iload 5, 2) := by decide +kernel
theorem dJ1_indexOfChar_4cfef_24 : decode cJ1_indexOfChar_4cfef 24 = .ok (.ireturn, 1) := by decide +kernel
theorem dJ1_indexOfChar_4cfef_25 : decode cJ1_indexOfChar_4cfef 25 = .ok (.iinc 5 1, 3) := by decide +kernel
theorem dJ1_indexOfChar_4cfef_28 : decode cJ1_indexOfChar_4cfef 28 = .ok (.goto (-21), 3) := by decide +kernel
theorem dJ1_indexOfChar_4cfef_31 : decode cJ1_indexOfChar_4cfef 31 = .ok (.iconst (-1), 1) := by decide +kernel
theorem dJ1_indexOfChar_4cfef_32 : decode cJ1_indexOfChar_4cfef 32 = .ok (.ireturn, 1) := by decide +kernel
theorem dJ2_getChar_3b067_0 : decode cJ2_getChar_3b067 0 = .ok (.getstatic 44, 3) := by decide +kernel
theorem dJ2_getChar_3b067_3 : decode cJ2_getChar_3b067 3 = .ok (.ifCond .ne 25, 3) := by decide +kernel
theorem dJ2_getChar_3b067_6 : decode cJ2_getChar_3b067 6 = .ok (.iload_n 1, 1) := by decide +kernel
theorem dJ2_getChar_3b067_7 : decode cJ2_getChar_3b067 7 = .ok (.ifCond .lt 11, 3) := by decide +kernel
theorem dJ2_getChar_3b067_10 : decode cJ2_getChar_3b067 10 = .ok (.iload_n 1, 1) := by decide +kernel
theorem dJ2_getChar_3b067_11 : decode cJ2_getChar_3b067 11 = .ok (.aload_n 0, 1) := by decide +kernel
theorem dJ2_getChar_3b067_12 : decode cJ2_getChar_3b067 12 = .ok (.invokestatic 48, 3) := by decide +kernel
theorem dJ2_getChar_3b067_15 : decode cJ2_getChar_3b067 15 = .ok (.if_icmp .lt 13, 3) := by decide +kernel
theorem dJ2_getChar_3b067_18 : decode cJ2_getChar_3b067 18 = .ok (.new 52, 3) := by decide +kernel
theorem dJ2_getChar_3b067_21 : decode cJ2_getChar_3b067 21 = .ok (.dup, 1) := by decide +kernel
theorem dJ2_getChar_3b067_22 : decode cJ2_getChar_3b067 22 = .ok (.ldc 54, 2) := by decide +kernel
theorem dJ2_getChar_3b067_24 : decode cJ2_getChar_3b067 24 = .ok (.invokespecial 56, 3) := by decide +kernel
theorem dJ2_getChar_3b067_27 : decode cJ2_getChar_3b067 27 = .ok (.athrow, 1) := by decide +kernel
theorem dJ2_getChar_3b067_28 : decode cJ2_getChar_3b067 28 = .ok (.iload_n 1, 1) := by decide +kernel
theorem dJ2_getChar_3b067_29 : decode cJ2_getChar_3b067 29 = .ok (.iconst 1, 1) := by decide +kernel
theorem dJ2_getChar_3b067_30 : decode cJ2_getChar_3b067 30 = .ok (.ishl, 1) := by decide +kernel
theorem dJ2_getChar_3b067_31 : decode cJ2_getChar_3b067 31 = .ok (.istore_n 1, 1) := by decide +kernel
theorem dJ2_getChar_3b067_32 : decode cJ2_getChar_3b067 32 = .ok (.aload_n 0, 1) := by decide +kernel
theorem dJ2_getChar_3b067_33 : decode cJ2_getChar_3b067 33 = .ok (.iload_n 1, 1) := by decide +kernel
theorem dJ2_getChar_3b067_34 : decode cJ2_getChar_3b067 34 = .ok (.iinc 1 1, 3) := by decide +kernel
theorem dJ2_getChar_3b067_37 : decode cJ2_getChar_3b067 37 = .ok (.baload, 1) := by decide +kernel
theorem dJ2_getChar_3b067_38 : decode cJ2_getChar_3b067 38 = .ok (.sipush 255, 3) := by decide +kernel
theorem dJ2_getChar_3b067_41 : decode cJ2_getChar_3b067 41 = .ok (.iand, 1) := by decide +kernel
theorem dJ2_getChar_3b067_42 : decode cJ2_getChar_3b067 42 = .ok (.getstatic 59, 3) := by decide +kernel
theorem dJ2_getChar_3b067_45 : decode cJ2_getChar_3b067 45 = .ok (.ishl, 1) := by decide +kernel
theorem dJ2_getChar_3b067_46 : decode cJ2_getChar_3b067 46 = .ok (.aload_n 0, 1) := by decide +kernel
theorem dJ2_getChar_3b067_47 : decode cJ2_getChar_3b067 47 = .ok (.iload_n 1, 1) := by decide +kernel
theorem dJ2_getChar_3b067_48 : decode cJ2_getChar_3b067 48 = .ok (.baload, 1) := by decide +kernel
theorem dJ2_getChar_3b067_49 : decode cJ2_getChar_3b067 49 = .ok (.sipush 255, 3) := by decide +kernel
theorem dJ2_getChar_3b067_52 : decode cJ2_getChar_3b067 52 = .ok (.iand, 1) := by decide +kernel
theorem dJ2_getChar_3b067_53 : decode cJ2_getChar_3b067 53 = .ok (.getstatic 63, 3) := by decide +kernel
theorem dJ2_getChar_3b067_56 : decode cJ2_getChar_3b067 56 = .ok (.ishl, 1) := by decide +kernel
theorem dJ2_getChar_3b067_57 : decode cJ2_getChar_3b067 57 = .ok (.ior, 1) := by decide +kernel
theorem dJ2_getChar_3b067_58 : decode cJ2_getChar_3b067 58 = .ok (.i2c, 1) := by decide +kernel
theorem dJ2_getChar_3b067_59 : decode cJ2_getChar_3b067 59 = .ok (.ireturn, 1) := by decide +kernel
theorem dJ2_length_9d52b_0 : decode cJ2_length_9d52b 0 = .ok (.aload_n 0, 1) := by decide +kernel
theorem dJ2_length_9d52b_1 : decode cJ2_length_9d52b 1 = .ok (.arraylength, 1) := by decide +kernel
theorem dJ2_length_9d52b_2 : decode cJ2_length_9d52b 2 = .ok (.iconst 1, 1) := by decide +kernel
theorem dJ2_length_9d52b_3 : decode cJ2_length_9d52b 3 = .ok (.ishr, 1) := by decide +kernel
theorem dJ2_length_9d52b_4 : decode cJ2_length_9d52b 4 = .ok (.ireturn, 1) := by decide +kernel
theorem dJ2_indexOf_4cfef_0 : decode cJ2_indexOf_4cfef 0 = .ok (.iload_n 2, 1) := by decide +kernel
theorem dJ2_indexOf_4cfef_1 : decode cJ2_indexOf_4cfef 1 = .ok (.iconst 0, 1) := by decide +kernel
theorem dJ2_indexOf_4cfef_2 : decode cJ2_indexOf_4cfef 2 = .ok (.invokestatic 224, 3) := by decide +kernel
theorem dJ2_indexOf_4cfef_5 : decode cJ2_indexOf_4cfef 5 = .ok (.istore_n 2, 1) := by decide +kernel
theorem dJ2_indexOf_4cfef_6 : decode cJ2_indexOf_4cfef 6 = .ok (.iload_n 3, 1) := by decide +kernel
theorem dJ2_indexOf_4cfef_7 : decode cJ2_indexOf_4cfef 7 = .ok (.aload_n 0, 1) := by decide +kernel
theorem dJ2_indexOf_4cfef_8 : decode cJ2_indexOf_4cfef 8 = .ok (.arraylength, 1) := by decide +kernel
theorem dJ2_indexOf_4cfef_9 : decode cJ2_indexOf_4cfef 9 = .ok (.iconst 1, 1) := by decide +kernel
theorem dJ2_indexOf_4cfef_10 : decode cJ2_indexOf_4cfef 10 = .ok (.ishr, 1) := by decide +kernel
theorem dJ2_indexOf_4cfef_11 : decode cJ2_indexOf_4cfef 11 = .ok (.invokestatic 183, 3) := by decide +kernel
theorem dJ2_indexOf_4cfef_14 : decode cJ2_indexOf_4cfef 14 = .ok (.istore_n 3, 1) := by decide +kernel
theorem dJ2_indexOf_4cfef_15 : decode cJ2_indexOf_4cfef 15 = .ok (.iload_n 2, 1) := by decide +kernel
theorem dJ2_indexOf_4cfef_16 : decode cJ2_indexOf_4cfef 16 = .ok (.iload_n 3, 1) := by decide +kernel
theorem dJ2_indexOf_4cfef_17 : decode cJ2_indexOf_4cfef 17 = .ok (.if_icmp .lt 5, 3) := by decide +kernel
theorem dJ2_indexOf_4cfef_20 : decode cJ2_indexOf_4cfef 20 = .ok (.iconst (-1), 1) := by decide +kernel
theorem dJ2_indexOf_4cfef_21 : decode cJ2_indexOf_4cfef 21 = .ok (.ireturn, 1) := by decide +kernel
theorem dJ2_indexOf_4cfef_22 : decode cJ2_indexOf_4cfef 22 = .ok (.iload_n 1, 1) := by decide +kernel
theorem dJ2_indexOf_4cfef_23 : decode cJ2_indexOf_4cfef 23 = .ok (.ldc 227, 2) := by decide +kernel
theorem dJ2_indexOf_4cfef_25 : decode cJ2_indexOf_4cfef 25 = .ok (.if_icmp .ge 11, 3) := by decide +kernel
theorem dJ2_indexOf_4cfef_28 : decode cJ2_indexOf_4cfef 28 = .ok (.aload_n 0, 1) := by decide +kernel
theorem dJ2_indexOf_4cfef_29 : decode cJ2_indexOf_4cfef 29 = .ok (.iload_n 1, 1) := by decide +kernel
theorem dJ2_indexOf_4cfef_30 : decode cJ2_indexOf_4cfef 30 = .ok (.iload_n 2, 1) := by decide +kernel
theorem dJ2_indexOf_4cfef_31 : decode cJ2_indexOf_4cfef 31 = .ok (.iload_n 3, 1) := by decide +kernel
theorem dJ2_indexOf_4cfef_32 : decode cJ2_indexOf_4cfef 32 = .ok (.invokestatic 228, 3) := by decide +kernel
theorem dJ2_indexOf_4cfef_35 : decode cJ2_indexOf_4cfef 35 = .ok (.ireturn, 1) := by decide +kernel
theorem dJ2_indexOf_4cfef_36 : decode cJ2_indexOf_4cfef 36 = .ok (.aload_n 0, 1) := by decide +kernel
theorem dJ2_indexOf_4cfef_37 : decode cJ2_indexOf_4cfef 37 = .ok (.iload_n 1, 1) := by decide +kernel
theorem dJ2_indexOf_4cfef_38 : decode cJ2_indexOf_4cfef 38 = .ok (.iload_n 2, 1) := by decide +kernel
theorem dJ2_indexOf_4cfef_39 : decode cJ2_indexOf_4cfef 39 = .ok (.iload_n 3, 1) := by decide +kernel
theorem dJ2_indexOf_4cfef_40 : decode cJ2_indexOf_4cfef 40 = .ok (.invokestatic 232, 3) := by decide +kernel
theorem dJ2_indexOf_4cfef_43 : decode cJ2_indexOf_4cfef 43 = .ok (.ireturn, 1) := by decide +kernel
theorem dJ2_indexOfChar_4cfef_0 : decode cJ2_indexOfChar_4cfef 0 = .ok (.iload_n 2, 1) := by decide +kernel
theorem dJ2_indexOfChar_4cfef_1 : decode cJ2_indexOfChar_4cfef 1 = .ok (.iload_n 3, 1) := by decide +kernel
theorem dJ2_indexOfChar_4cfef_2 : decode cJ2_indexOfChar_4cfef 2 = .ok (.aload_n 0, 1) := by decide +kernel
theorem dJ2_indexOfChar_4cfef_3 : decode cJ2_indexOfChar_4cfef 3 = .ok (.invokestatic 96, 3) := by decide +kernel
theorem dJ2_indexOfChar_4cfef_6 : decode cJ2_indexOfChar_4cfef 6 = .ok (.aload_n 0, 1) := by decide +kernel
theorem dJ2_indexOfChar_4cfef_7 : decode cJ2_indexOfChar_4cfef 7 = .ok (.iload_n 1, 1) := by decide +kernel
theorem dJ2_indexOfChar_4cfef_8 : decode cJ2_indexOfChar_4cfef 8 = .ok (.iload_n 2, 1) := by decide +kernel
theorem dJ2_indexOfChar_4cfef_9 : decode cJ2_indexOfChar_4cfef 9 = .ok (.iload_n 3, 1) := by decide +kernel
theorem dJ2_indexOfChar_4cfef_10 : decode cJ2_indexOfChar_4cfef 10 = .ok (.invokestatic 244, 3) := by decide +kernel
theorem dJ2_indexOfChar_4cfef_13 : decode cJ2_indexOfChar_4cfef 13 = .ok (.ireturn, 1) := by decide +kernel
theorem dJ2_indexOfCharUnsafe_4cfef_0 : decode cJ2_indexOfCharUnsafe_4cfef 0 = .ok (.iload_n 2, 1) := by decide +kernel
theorem dJ2_indexOfCharUnsafe_4cfef_1 : decode cJ2_indexOfCharUnsafe_4cfef 1 = .ok (.istore 4, 2) := by decide +kernel
theorem dJ2_indexOfCharUnsafe_4cfef_3 : decode cJ2_indexOfCharUnsafe_4cfef 3 = .ok (.iload 4, 2) := by decide +kernel
theorem dJ2_indexOfCharUnsafe_4cfef_5 : decode cJ2_indexOfCharUnsafe_4cfef 5 = .ok (.iload_n 3, 1) := by decide +kernel
theorem dJ2_indexOfCharUnsafe_4cfef_6 : decode cJ2_indexOfCharUnsafe_4cfef 6 = .ok (.if_icmp .ge 22, 3) := by decide +kernel
theorem dJ2_indexOfCharUnsafe_4cfef_9 : decode cJ2_indexOfCharUnsafe_4cfef 9 = .ok (.aload_n 0, 1) := by decide +kernel
theorem dJ2_indexOfCharUnsafe_4cfef_10 : decode cJ2_indexOfCharUnsafe_4cfef 10 = .ok (.iload 4, 2) := by decide +kernel
theorem dJ2_indexOfCharUnsafe_4cfef_12 : decode cJ2_indexOfCharUnsafe_4cfef 12 = .ok (.invokestatic 71, 3) := by decide +kernel
theorem dJ2_indexOfCharUnsafe_4cfef_15 : decode cJ2_indexOfCharUnsafe_4cfef 15 = .ok (.iload_n 1, 1) := by decide +kernel
theorem dJ2_indexOfCharUnsafe_4cfef_16 : decode cJ2_indexOfCharUnsafe_4cfef 16 = .ok (.if_icmp .ne 6, 3) := by decide +kernel
theorem dJ2_indexOfCharUnsafe_4cfef_19 : decode cJ2_indexOfCharUnsafe_4cfef 19 = .ok (.iload 4, 2) := by decide +kernel
theorem dJ2_indexOfCharUnsafe_4cfef_21 : decode cJ2_indexOfCharUnsafe_4cfef 21 = .ok (.ireturn, 1) := by decide +kernel
theorem dJ2_indexOfCharUnsafe_4cfef_22 : decode cJ2_indexOfCharUnsafe_4cfef 22 = .ok (.iinc 4 1, 3) := by decide +kernel
theorem dJ2_indexOfCharUnsafe_4cfef_25 : decode cJ2_indexOfCharUnsafe_4cfef 25 = .ok (.goto (-22), 3) := by decide +kernel
theorem dJ2_indexOfCharUnsafe_4cfef_28 : decode cJ2_indexOfCharUnsafe_4cfef 28 = .ok (.iconst (-1), 1) := by decide +kernel
theorem dJ2_indexOfCharUnsafe_4cfef_29 : decode cJ2_indexOfCharUnsafe_4cfef 29 = .ok (.ireturn, 1) := by decide +kernel
theorem dJ2_indexOfSupplementary_4cfef_0 : decode cJ2_indexOfSupplementary_4cfef 0 = .ok (.iload_n 1, 1) := by decide +kernel
theorem dJ2_indexOfSupplementary_4cfef_1 : decode cJ2_indexOfSupplementary_4cfef 1 = .ok (.invokestatic 164, 3) := by decide +kernel
theorem dJ2_indexOfSupplementary_4cfef_4 : decode cJ2_indexOfSupplementary_4cfef 4 = .ok (.ifCond .eq 65, 3) := by decide +kernel
theorem dJ2_indexOfSupplementary_4cfef_7 : decode cJ2_indexOfSupplementary_4cfef 7 = .ok (.iload_n 1, 1) := by decide +kernel
theorem dJ2_indexOfSupplementary_4cfef_8 : decode cJ2_indexOfSupplementary_4cfef 8 = .ok (.invokestatic 157, 3) := by decide +kernel
theorem dJ2_indexOfSupplementary_4cfef_11 : decode cJ2_indexOfSupplementary_4cfef 11 = .ok (.istore 4, 2) := by decide +kernel
theorem dJ2_indexOfSupplementary_4cfef_13 : decode cJ2_indexOfSupplementary_4cfef 13 = .ok (.iload_n 1, 1) := by decide +kernel
theorem dJ2_indexOfSupplementary_4cfef_14 : decode cJ2_indexOfSupplementary_4cfef 14 = .ok (.invokestatic 161, 3) := by decide +kernel
theorem dJ2_indexOfSupplementary_4cfef_17 : decode cJ2_indexOfSupplementary_4cfef 17 = .ok (.istore 5, 2) := by decide +kernel
theorem dJ2_indexOfSupplementary_4cfef_19 : decode cJ2_indexOfSupplementary_4cfef 19 = .ok (.iload_n 2, 1) := by decide +kernel
theorem dJ2_indexOfSupplementary_4cfef_20 : decode cJ2_indexOfSupplementary_4cfef 20 = .ok (.iload_n 3, 1) := by decide +kernel
theorem dJ2_indexOfSupplementary_4cfef_21 : decode cJ2_indexOfSupplementary_4cfef 21 = .ok (.aload_n 0, 1) := by decide +kernel
theorem dJ2_indexOfSupplementary_4cfef_22 : decode cJ2_indexOfSupplementary_4cfef 22 = .ok (.invokestatic 96, 3) := by decide +kernel
theorem dJ2_indexOfSupplementary_4cfef_25 : decode cJ2_indexOfSupplementary_4cfef 25 = .ok (.iload_n 2, 1) := by decide +kernel
theorem dJ2_indexOfSupplementary_4cfef_26 : decode cJ2_indexOfSupplementary_4cfef 26 = .ok (.istore 6, 2) := by decide +kernel
theorem dJ2_indexOfSupplementary_4cfef_28 : decode cJ2_indexOfSupplementary_4cfef 28 = .ok (.iload 6, 2) := by decide +kernel
theorem dJ2_indexOfSupplementary_4cfef_30 : decode cJ2_indexOfSupplementary_4cfef 30 = .ok (.iload_n 3, 1) := by decide +kernel
theorem dJ2_indexOfSupplementary_4cfef_31 : decode cJ2_indexOfSupplementary_4cfef 31 = .ok (.iconst 1, 1) := by decide +kernel
theorem dJ2_indexOfSupplementary_4cfef_32 : decode cJ2_indexOfSupplementary_4cfef 32 = .ok (.isub, 1) := by decide +kernel
theorem dJ2_indexOfSupplementary_4cfef_33 : decode cJ2_indexOfSupplementary_4cfef 33 = .ok (.if_icmp .ge 36, 3) := by decide +kernel
theorem dJ2_indexOfSupplementary_4cfef_36 : decode cJ2_indexOfSupplementary_4cfef 36 = .ok (.aload_n 0, 1) := by decide +kernel
theorem dJ2_indexOfSupplementary_4cfef_37 : decode cJ2_indexOfSupplementary_4cfef 37 = .ok (.iload 6, 2) := by decide +kernel
theorem dJ2_indexOfSupplementary_4cfef_39 : decode cJ2_indexOfSupplementary_4cfef 39 = .ok (.invokestatic 71, 3) := by decide +kernel
theorem dJ2_indexOfSupplementary_4cfef_42 : decode cJ2_indexOfSupplementary_4cfef 42 = .ok (.iload 4, 2) := by decide +kernel
theorem dJ2_indexOfSupplementary_4cfef_44 : decode cJ2_indexOfSupplementary_4cfef 44 = .ok (.if_icmp .ne 19, 3) := by decide +kernel
theorem dJ2_indexOfSupplementary_4cfef_47 : decode cJ2_indexOfSupplementary_4cfef 47 = .ok (.aload_n 0, 1) := by decide +kernel
theorem dJ2_indexOfSupplementary_4cfef_48 : decode cJ2_indexOfSupplementary_4cfef 48 = .ok (.iload 6, 2) := by decide +kernel
theorem dJ2_indexOfSupplementary_4cfef_50 : decode cJ2_indexOfSupplementary_4cfef 50 = .ok (.iconst 1, 1) := by decide +kernel
theorem dJ2_indexOfSupplementary_4cfef_51 : decode cJ2_indexOfSupplementary_4cfef 51 = .ok (.iadd, 1) := by decide +kernel
theorem dJ2_indexOfSupplementary_4cfef_52 : decode cJ2_indexOfSupplementary_4cfef 52 = .ok (.invokestatic 71, 3) := by decide +kernel
theorem dJ2_indexOfSupplementary_4cfef_55 : decode cJ2_indexOfSupplementary_4cfef 55 = .ok (.iload 5, 2) := by decide +kernel
theorem dJ2_indexOfSupplementary_4cfef_57 : decode cJ2_indexOfSupplementary_4cfef 57 = .ok (.if_icmp .ne 6, 3) := by decide +kernel
theorem dJ2_indexOfSupplementary_4cfef_60 : decode cJ2_indexOfSupplementary_4cfef 60 = .ok (.iload 6, 2) := by decide +kernel
theorem dJ2_indexOfSupplementary_4cfef_62 : decode cJ2_indexOfSupplementary_4cfef 62 = .ok (.ireturn, 1) := by decide +kernel
theorem dJ2_indexOfSupplementary_4cfef_63 : decode cJ2_indexOfSupplementary_4cfef 63 = .ok (.iinc 6 1, 3) := by decide +kernel
theorem dJ2_indexOfSupplementary_4cfef_66 : decode cJ2_indexOfSupplementary_4cfef 66 = .ok (.goto (-38), 3) := by decide +kernel
theorem dJ2_indexOfSupplementary_4cfef_69 : decode cJ2_indexOfSupplementary_4cfef 69 = .ok (.iconst (-1), 1) := by decide +kernel
theorem dJ2_indexOfSupplementary_4cfef_70 : decode cJ2_indexOfSupplementary_4cfef 70 = .ok (.ireturn, 1) := by decide +kernel
theorem dJ2_checkBoundsBeginEnd_d044e_0 : decode cJ2_checkBoundsBeginEnd_d044e 0 = .ok (.iload_n 0, 1) := by decide +kernel
theorem dJ2_checkBoundsBeginEnd_d044e_1 : decode cJ2_checkBoundsBeginEnd_d044e 1 = .ok (.iload_n 1, 1) := by decide +kernel
theorem dJ2_checkBoundsBeginEnd_d044e_2 : decode cJ2_checkBoundsBeginEnd_d044e 2 = .ok (.aload_n 2, 1) := by decide +kernel
theorem dJ2_checkBoundsBeginEnd_d044e_3 : decode cJ2_checkBoundsBeginEnd_d044e 3 = .ok (.invokestatic 48, 3) := by decide +kernel
theorem dJ2_checkBoundsBeginEnd_d044e_6 : decode cJ2_checkBoundsBeginEnd_d044e 6 = .ok (.invokestatic 241, 3) := by decide +kernel
theorem dJ2_checkBoundsBeginEnd_d044e_9 : decode cJ2_checkBoundsBeginEnd_d044e 9 = .ok (.return_, 1) := by decide +kernel
theorem dJ7_fill_53178_0 : decode cJ7_fill_53178 0 = .ok (.iconst 0, 1) := by decide +kernel
theorem dJ7_fill_53178_1 : decode cJ7_fill_53178 1 = .ok (.istore_n 2, 1) := by decide +kernel
theorem dJ7_fill_53178_2 : decode cJ7_fill_53178 2 = .ok (.aload_n 0, 1) := by decide +kernel
theorem dJ7_fill_53178_3 : decode cJ7_fill_53178 3 = .ok (.arraylength, 1) := by decide +kernel
theorem dJ7_fill_53178_4 : decode cJ7_fill_53178 4 = .ok (.istore_n 3, 1) := by decide +kernel
theorem dJ7_fill_53178_5 : decode cJ7_fill_53178 5 = .ok (.iload_n 2, 1) := by decide +kernel
theorem dJ7_fill_53178_6 : decode cJ7_fill_53178 6 = .ok (.iload_n 3, 1) := by decide +kernel
theorem dJ7_fill_53178_7 : decode cJ7_fill_53178 7 = .ok (.if_icmp .ge 13, 3) := by decide +kernel
theorem dJ7_fill_53178_10 : decode cJ7_fill_53178 10 = .ok (.aload_n 0, 1) := by decide +kernel
theorem dJ7_fill_53178_11 : decode cJ7_fill_53178 11 = .ok (.iload_n 2, 1) := by decide +kernel
theorem dJ7_fill_53178_12 : decode cJ7_fill_53178 12 = .ok (.iload_n 1, 1) := by decide +kernel
theorem dJ7_fill_53178_13 : decode cJ7_fill_53178 13 = .ok (.iastore, 1) := by decide +kernel
theorem dJ7_fill_53178_14 : decode cJ7_fill_53178 14 = .ok (.iinc 2 1, 3) := by decide +kernel
theorem dJ7_fill_53178_17 : decode cJ7_fill_53178 17 = .ok (.goto (-12), 3) := by decide +kernel
theorem dJ7_fill_53178_20 : decode cJ7_fill_53178 20 = .ok (.return_, 1) := by decide +kernel
theorem dJ3_checkFromToIndex_8c36e_0 : decode cJ3_checkFromToIndex_8c36e 0 = .ok (.iload_n 0, 1) := by decide +kernel
theorem dJ3_checkFromToIndex_8c36e_1 : decode cJ3_checkFromToIndex_8c36e 1 = .ok (.ifCond .lt 13, 3) := by decide +kernel
theorem dJ3_checkFromToIndex_8c36e_4 : decode cJ3_checkFromToIndex_8c36e 4 = .ok (.iload_n 0, 1) := by decide +kernel
theorem dJ3_checkFromToIndex_8c36e_5 : decode cJ3_checkFromToIndex_8c36e 5 = .ok (.iload_n 1, 1) := by decide +kernel
theorem dJ3_checkFromToIndex_8c36e_6 : decode cJ3_checkFromToIndex_8c36e 6 = .ok (.if_icmp .gt 8, 3) := by decide +kernel
theorem dJ3_checkFromToIndex_8c36e_9 : decode cJ3_checkFromToIndex_8c36e 9 = .ok (.iload_n 1, 1) := by decide +kernel
theorem dJ3_checkFromToIndex_8c36e_10 : decode cJ3_checkFromToIndex_8c36e 10 = .ok (.iload_n 2, 1) := by decide +kernel
theorem dJ3_checkFromToIndex_8c36e_11 : decode cJ3_checkFromToIndex_8c36e 11 = .ok (.if_icmp .le 11, 3) := by decide +kernel
theorem dJ3_checkFromToIndex_8c36e_14 : decode cJ3_checkFromToIndex_8c36e 14 = .ok (.aload_n 3, 1) := by decide +kernel
theorem dJ3_checkFromToIndex_8c36e_15 : decode cJ3_checkFromToIndex_8c36e 15 = .ok (.iload_n 0, 1) := by decide +kernel
theorem dJ3_checkFromToIndex_8c36e_16 : decode cJ3_checkFromToIndex_8c36e 16 = .ok (.iload_n 1, 1) := by decide +kernel
theorem dJ3_checkFromToIndex_8c36e_17 : decode cJ3_checkFromToIndex_8c36e 17 = .ok (.iload_n 2, 1) := by decide +kernel
theorem dJ3_checkFromToIndex_8c36e_18 : decode cJ3_checkFromToIndex_8c36e 18 = .ok (.invokestatic 99, 3) := by decide +kernel
theorem dJ3_checkFromToIndex_8c36e_21 : decode cJ3_checkFromToIndex_8c36e 21 = .ok (.athrow, 1) := by decide +kernel
theorem dJ3_checkFromToIndex_8c36e_22 : decode cJ3_checkFromToIndex_8c36e 22 = .ok (.iload_n 0, 1) := by decide +kernel
theorem dJ3_checkFromToIndex_8c36e_23 : decode cJ3_checkFromToIndex_8c36e 23 = .ok (.ireturn, 1) := by decide +kernel
theorem dL_law_0 : decode cL_law 0 = .ok (.new 7, 3) := by decide +kernel
theorem dL_law_3 : decode cL_law 3 = .ok (.dup, 1) := by decide +kernel
theorem dL_law_4 : decode cL_law 4 = .ok (.invokespecial 9, 3) := by decide +kernel
theorem dL_law_7 : decode cL_law 7 = .ok (.astore_n 1, 1) := by decide +kernel
theorem dL_law_8 : decode cL_law 8 = .ok (.new 10, 3) := by decide +kernel
theorem dL_law_11 : decode cL_law 11 = .ok (.dup, 1) := by decide +kernel
theorem dL_law_12 : decode cL_law 12 = .ok (.invokespecial 12, 3) := by decide +kernel
theorem dL_law_15 : decode cL_law 15 = .ok (.astore_n 2, 1) := by decide +kernel
theorem dL_law_16 : decode cL_law 16 = .ok (.iconst 0, 1) := by decide +kernel
theorem dL_law_17 : decode cL_law 17 = .ok (.istore_n 3, 1) := by decide +kernel
theorem dL_law_18 : decode cL_law 18 = .ok (.iload_n 3, 1) := by decide +kernel
theorem dL_law_19 : decode cL_law 19 = .ok (.aload_n 0, 1) := by decide +kernel
theorem dL_law_20 : decode cL_law 20 = .ok (.arraylength, 1) := by decide +kernel
theorem dL_law_21 : decode cL_law 21 = .ok (.bipush 6, 2) := by decide +kernel
theorem dL_law_23 : decode cL_law 23 = .ok (.isub, 1) := by decide +kernel
theorem dL_law_24 : decode cL_law 24 = .ok (.if_icmp .gt 1410, 3) := by decide +kernel
theorem dL_law_27 : decode cL_law 27 = .ok (.aload_n 0, 1) := by decide +kernel
theorem dL_law_28 : decode cL_law 28 = .ok (.iload_n 3, 1) := by decide +kernel
theorem dL_law_29 : decode cL_law 29 = .ok (.iaload, 1) := by decide +kernel
theorem dL_law_30 : decode cL_law 30 = .ok (.bipush 63, 2) := by decide +kernel
theorem dL_law_32 : decode cL_law 32 = .ok (.iand, 1) := by decide +kernel
theorem dL_law_33 : decode cL_law 33 = .ok (.tableswitch 1395 0 39 #[175, 208, 241, 264, 297, 330, 373, 406, 439, 482, 515, 528, 591, 614, 637, 650, 673, 696, 719, 742, 785, 828, 861, 894, 927, 960, 983, 1026, 1049, 1092, 1135, 1198, 1221, 1244, 1287, 1300, 1313, 1336, 1349, 1372], 175) := by decide +kernel
theorem dL_law_208 : decode cL_law 208 = .ok (.aload_n 1, 1) := by decide +kernel
theorem dL_law_209 : decode cL_law 209 = .ok (.aload_n 0, 1) := by decide +kernel
theorem dL_law_210 : decode cL_law 210 = .ok (.iload_n 3, 1) := by decide +kernel
theorem dL_law_211 : decode cL_law 211 = .ok (.iconst 1, 1) := by decide +kernel
theorem dL_law_212 : decode cL_law 212 = .ok (.iadd, 1) := by decide +kernel
theorem dL_law_213 : decode cL_law 213 = .ok (.iaload, 1) := by decide +kernel
theorem dL_law_214 : decode cL_law 214 = .ok (.aload_n 0, 1) := by decide +kernel
theorem dL_law_215 : decode cL_law 215 = .ok (.iload_n 3, 1) := by decide +kernel
theorem dL_law_216 : decode cL_law 216 = .ok (.iconst 2, 1) := by decide +kernel
theorem dL_law_217 : decode cL_law 217 = .ok (.iadd, 1) := by decide +kernel
theorem dL_law_218 : decode cL_law 218 = .ok (.iaload, 1) := by decide +kernel
theorem dL_law_219 : decode cL_law 219 = .ok (.invokevirtual 13, 3) := by decide +kernel
theorem dL_law_222 : decode cL_law 222 = .ok (.aload_n 2, 1) := by decide +kernel
theorem dL_law_223 : decode cL_law 223 = .ok (.aload_n 0, 1) := by decide +kernel
theorem dL_law_224 : decode cL_law 224 = .ok (.iload_n 3, 1) := by decide +kernel
theorem dL_law_225 : decode cL_law 225 = .ok (.iconst 1, 1) := by decide +kernel
theorem dL_law_226 : decode cL_law 226 = .ok (.iadd, 1) := by decide +kernel
theorem dL_law_227 : decode cL_law 227 = .ok (.iaload, 1) := by decide +kernel
theorem dL_law_228 : decode cL_law 228 = .ok (.aload_n 0, 1) := by decide +kernel
theorem dL_law_229 : decode cL_law 229 = .ok (.iload_n 3, 1) := by decide +kernel
theorem dL_law_230 : decode cL_law 230 = .ok (.iconst 2, 1) := by decide +kernel
theorem dL_law_231 : decode cL_law 231 = .ok (.iadd, 1) := by decide +kernel
theorem dL_law_232 : decode cL_law 232 = .ok (.iaload, 1) := by decide +kernel
theorem dL_law_233 : decode cL_law 233 = .ok (.invokevirtual 17, 3) := by decide +kernel
theorem dL_law_236 : decode cL_law 236 = .ok (.if_icmp .eq 1192, 3) := by decide +kernel
theorem dL_law_239 : decode cL_law 239 = .ok (.iconst 0, 1) := by decide +kernel
theorem dL_law_240 : decode cL_law 240 = .ok (.ireturn, 1) := by decide +kernel
theorem dL_law_241 : decode cL_law 241 = .ok (.aload_n 1, 1) := by decide +kernel
theorem dL_law_242 : decode cL_law 242 = .ok (.aload_n 0, 1) := by decide +kernel
theorem dL_law_243 : decode cL_law 243 = .ok (.iload_n 3, 1) := by decide +kernel
theorem dL_law_244 : decode cL_law 244 = .ok (.iconst 1, 1) := by decide +kernel
theorem dL_law_245 : decode cL_law 245 = .ok (.iadd, 1) := by decide +kernel
theorem dL_law_246 : decode cL_law 246 = .ok (.iaload, 1) := by decide +kernel
theorem dL_law_247 : decode cL_law 247 = .ok (.aload_n 0, 1) := by decide +kernel
theorem dL_law_248 : decode cL_law 248 = .ok (.iload_n 3, 1) := by decide +kernel
theorem dL_law_249 : decode cL_law 249 = .ok (.iconst 2, 1) := by decide +kernel
theorem dL_law_250 : decode cL_law 250 = .ok (.iadd, 1) := by decide +kernel
theorem dL_law_251 : decode cL_law 251 = .ok (.iaload, 1) := by decide +kernel
theorem dL_law_252 : decode cL_law 252 = .ok (.invokevirtual 18, 3) := by decide +kernel
theorem dL_law_255 : decode cL_law 255 = .ok (.aload_n 2, 1) := by decide +kernel
theorem dL_law_256 : decode cL_law 256 = .ok (.aload_n 0, 1) := by decide +kernel
theorem dL_law_257 : decode cL_law 257 = .ok (.iload_n 3, 1) := by decide +kernel
theorem dL_law_258 : decode cL_law 258 = .ok (.iconst 1, 1) := by decide +kernel
theorem dL_law_259 : decode cL_law 259 = .ok (.iadd, 1) := by decide +kernel
theorem dL_law_260 : decode cL_law 260 = .ok (.iaload, 1) := by decide +kernel
theorem dL_law_261 : decode cL_law 261 = .ok (.aload_n 0, 1) := by decide +kernel
theorem dL_law_262 : decode cL_law 262 = .ok (.iload_n 3, 1) := by decide +kernel
theorem dL_law_263 : decode cL_law 263 = .ok (.iconst 2, 1) := by decide +kernel
theorem dL_law_264 : decode cL_law 264 = .ok (.iadd, 1) := by decide +kernel
theorem dL_law_265 : decode cL_law 265 = .ok (.iaload, 1) := by decide +kernel
theorem dL_law_266 : decode cL_law 266 = .ok (.invokevirtual 21, 3) := by decide +kernel
theorem dL_law_269 : decode cL_law 269 = .ok (.if_icmp .eq 1159, 3) := by decide +kernel
theorem dL_law_272 : decode cL_law 272 = .ok (.iconst 0, 1) := by decide +kernel
theorem dL_law_273 : decode cL_law 273 = .ok (.ireturn, 1) := by decide +kernel
theorem dL_law_274 : decode cL_law 274 = .ok (.aload_n 1, 1) := by decide +kernel
theorem dL_law_275 : decode cL_law 275 = .ok (.aload_n 0, 1) := by decide +kernel
theorem dL_law_276 : decode cL_law 276 = .ok (.iload_n 3, 1) := by decide +kernel
theorem dL_law_277 : decode cL_law 277 = .ok (.iconst 1, 1) := by decide +kernel
theorem dL_law_278 : decode cL_law 278 = .ok (.iadd, 1) := by decide +kernel
theorem dL_law_279 : decode cL_law 279 = .ok (.iaload, 1) := by decide +kernel
theorem dL_law_280 : decode cL_law 280 = .ok (.invokevirtual 22, 3) := by decide +kernel
theorem dL_law_283 : decode cL_law 283 = .ok (.aload_n 2, 1) := by decide +kernel
theorem dL_law_284 : decode cL_law 284 = .ok (.aload_n 0, 1) := by decide +kernel
theorem dL_law_285 : decode cL_law 285 = .ok (.iload_n 3, 1) := by decide +kernel
theorem dL_law_286 : decode cL_law 286 = .ok (.iconst 1, 1) := by decide +kernel
theorem dL_law_287 : decode cL_law 287 = .ok (.iadd, 1) := by decide +kernel
theorem dL_law_288 : decode cL_law 288 = .ok (.iaload, 1) := by decide +kernel
theorem dL_law_289 : decode cL_law 289 = .ok (.invokevirtual 26, 3) := by decide +kernel
theorem dL_law_292 : decode cL_law 292 = .ok (.if_icmp .eq 1136, 3) := by decide +kernel
theorem dL_law_295 : decode cL_law 295 = .ok (.iconst 0, 1) := by decide +kernel
theorem dL_law_296 : decode cL_law 296 = .ok (.ireturn, 1) := by decide +kernel
theorem dL_law_297 : decode cL_law 297 = .ok (.aload_n 1, 1) := by decide +kernel
theorem dL_law_298 : decode cL_law 298 = .ok (.aload_n 0, 1) := by decide +kernel
theorem dL_law_299 : decode cL_law 299 = .ok (.iload_n 3, 1) := by decide +kernel
theorem dL_law_300 : decode cL_law 300 = .ok (.iconst 1, 1) := by decide +kernel
theorem dL_law_301 : decode cL_law 301 = .ok (.iadd, 1) := by decide +kernel
theorem dL_law_302 : decode cL_law 302 = .ok (.iaload, 1) := by decide +kernel
theorem dL_law_303 : decode cL_law 303 = .ok (.aload_n 0, 1) := by decide +kernel
theorem dL_law_304 : decode cL_law 304 = .ok (.iload_n 3, 1) := by decide +kernel
theorem dL_law_305 : decode cL_law 305 = .ok (.iconst 2, 1) := by decide +kernel
theorem dL_law_306 : decode cL_law 306 = .ok (.iadd, 1) := by decide +kernel
theorem dL_law_307 : decode cL_law 307 = .ok (.iaload, 1) := by decide +kernel
theorem dL_law_308 : decode cL_law 308 = .ok (.invokevirtual 27, 3) := by decide +kernel
theorem dL_law_311 : decode cL_law 311 = .ok (.aload_n 2, 1) := by decide +kernel
theorem dL_law_312 : decode cL_law 312 = .ok (.aload_n 0, 1) := by decide +kernel
theorem dL_law_313 : decode cL_law 313 = .ok (.iload_n 3, 1) := by decide +kernel
theorem dL_law_314 : decode cL_law 314 = .ok (.iconst 1, 1) := by decide +kernel
theorem dL_law_315 : decode cL_law 315 = .ok (.iadd, 1) := by decide +kernel
theorem dL_law_316 : decode cL_law 316 = .ok (.iaload, 1) := by decide +kernel
theorem dL_law_317 : decode cL_law 317 = .ok (.aload_n 0, 1) := by decide +kernel
theorem dL_law_318 : decode cL_law 318 = .ok (.iload_n 3, 1) := by decide +kernel
theorem dL_law_319 : decode cL_law 319 = .ok (.iconst 2, 1) := by decide +kernel
theorem dL_law_320 : decode cL_law 320 = .ok (.iadd, 1) := by decide +kernel
theorem dL_law_321 : decode cL_law 321 = .ok (.iaload, 1) := by decide +kernel
theorem dL_law_322 : decode cL_law 322 = .ok (.invokevirtual 30, 3) := by decide +kernel
theorem dL_law_325 : decode cL_law 325 = .ok (.if_icmp .eq 1103, 3) := by decide +kernel
theorem dL_law_328 : decode cL_law 328 = .ok (.iconst 0, 1) := by decide +kernel
theorem dL_law_329 : decode cL_law 329 = .ok (.ireturn, 1) := by decide +kernel
theorem dL_law_330 : decode cL_law 330 = .ok (.aload_n 1, 1) := by decide +kernel
theorem dL_law_331 : decode cL_law 331 = .ok (.aload_n 0, 1) := by decide +kernel
theorem dL_law_332 : decode cL_law 332 = .ok (.iload_n 3, 1) := by decide +kernel
theorem dL_law_333 : decode cL_law 333 = .ok (.iconst 1, 1) := by decide +kernel
theorem dL_law_334 : decode cL_law 334 = .ok (.iadd, 1) := by decide +kernel
theorem dL_law_335 : decode cL_law 335 = .ok (.iaload, 1) := by decide +kernel
theorem dL_law_336 : decode cL_law 336 = .ok (.aload_n 0, 1) := by decide +kernel
theorem dL_law_337 : decode cL_law 337 = .ok (.iload_n 3, 1) := by decide +kernel
theorem dL_law_338 : decode cL_law 338 = .ok (.iconst 2, 1) := by decide +kernel
theorem dL_law_339 : decode cL_law 339 = .ok (.iadd, 1) := by decide +kernel
theorem dL_law_340 : decode cL_law 340 = .ok (.iaload, 1) := by decide +kernel
theorem dL_law_341 : decode cL_law 341 = .ok (.invokevirtual 31, 3) := by decide +kernel
theorem dL_law_344 : decode cL_law 344 = .ok (.aload_n 2, 1) := by decide +kernel
theorem dL_law_345 : decode cL_law 345 = .ok (.aload_n 0, 1) := by decide +kernel
theorem dL_law_346 : decode cL_law 346 = .ok (.iload_n 3, 1) := by decide +kernel
theorem dL_law_347 : decode cL_law 347 = .ok (.iconst 1, 1) := by decide +kernel
theorem dL_law_348 : decode cL_law 348 = .ok (.iadd, 1) := by decide +kernel
theorem dL_law_349 : decode cL_law 349 = .ok (.iaload, 1) := by decide +kernel
theorem dL_law_350 : decode cL_law 350 = .ok (.aload_n 0, 1) := by decide +kernel
theorem dL_law_351 : decode cL_law 351 = .ok (.iload_n 3, 1) := by decide +kernel
theorem dL_law_352 : decode cL_law 352 = .ok (.iconst 2, 1) := by decide +kernel
theorem dL_law_353 : decode cL_law 353 = .ok (.iadd, 1) := by decide +kernel
theorem dL_law_354 : decode cL_law 354 = .ok (.iaload, 1) := by decide +kernel
theorem dL_law_355 : decode cL_law 355 = .ok (.invokevirtual 34, 3) := by decide +kernel
theorem dL_law_358 : decode cL_law 358 = .ok (.if_icmp .eq 1070, 3) := by decide +kernel
theorem dL_law_361 : decode cL_law 361 = .ok (.iconst 0, 1) := by decide +kernel
theorem dL_law_362 : decode cL_law 362 = .ok (.ireturn, 1) := by decide +kernel
theorem dL_law_363 : decode cL_law 363 = .ok (.aload_n 1, 1) := by decide +kernel
theorem dL_law_364 : decode cL_law 364 = .ok (.aload_n 0, 1) := by decide +kernel
theorem dL_law_365 : decode cL_law 365 = .ok (.iload_n 3, 1) := by decide +kernel
theorem dL_law_366 : decode cL_law 366 = .ok (.iconst 1, 1) := by decide +kernel
theorem dL_law_367 : decode cL_law 367 = .ok (.iadd, 1) := by decide +kernel
theorem dL_law_368 : decode cL_law 368 = .ok (.iaload, 1) := by decide +kernel
theorem dL_law_369 : decode cL_law 369 = .ok (.aload_n 0, 1) := by decide +kernel
theorem dL_law_370 : decode cL_law 370 = .ok (.iload_n 3, 1) := by decide +kernel
theorem dL_law_371 : decode cL_law 371 = .ok (.iconst 2, 1) := by decide +kernel
theorem dL_law_372 : decode cL_law 372 = .ok (.iadd, 1) := by decide +kernel
theorem dL_law_373 : decode cL_law 373 = .ok (.iaload, 1) := by decide +kernel
theorem dL_law_374 : decode cL_law 374 = .ok (.aload_n 0, 1) := by decide +kernel
theorem dL_law_375 : decode cL_law 375 = .ok (.iload_n 3, 1) := by decide +kernel
theorem dL_law_376 : decode cL_law 376 = .ok (.iconst 3, 1) := by decide +kernel
theorem dL_law_377 : decode cL_law 377 = .ok (.iadd, 1) := by decide +kernel
theorem dL_law_378 : decode cL_law 378 = .ok (.iaload, 1) := by decide +kernel
theorem dL_law_379 : decode cL_law 379 = .ok (.invokevirtual 35, 3) := by decide +kernel
theorem dL_law_382 : decode cL_law 382 = .ok (.aload_n 2, 1) := by decide +kernel
theorem dL_law_383 : decode cL_law 383 = .ok (.aload_n 0, 1) := by decide +kernel
theorem dL_law_384 : decode cL_law 384 = .ok (.iload_n 3, 1) := by decide +kernel
theorem dL_law_385 : decode cL_law 385 = .ok (.iconst 1, 1) := by decide +kernel
theorem dL_law_386 : decode cL_law 386 = .ok (.iadd, 1) := by decide +kernel
theorem dL_law_387 : decode cL_law 387 = .ok (.iaload, 1) := by decide +kernel
theorem dL_law_388 : decode cL_law 388 = .ok (.aload_n 0, 1) := by decide +kernel
theorem dL_law_389 : decode cL_law 389 = .ok (.iload_n 3, 1) := by decide +kernel
theorem dL_law_390 : decode cL_law 390 = .ok (.iconst 2, 1) := by decide +kernel
theorem dL_law_391 : decode cL_law 391 = .ok (.iadd, 1) := by decide +kernel
theorem dL_law_392 : decode cL_law 392 = .ok (.iaload, 1) := by decide +kernel
theorem dL_law_393 : decode cL_law 393 = .ok (.aload_n 0, 1) := by decide +kernel
theorem dL_law_394 : decode cL_law 394 = .ok (.iload_n 3, 1) := by decide +kernel
theorem dL_law_395 : decode cL_law 395 = .ok (.iconst 3, 1) := by decide +kernel
theorem dL_law_396 : decode cL_law 396 = .ok (.iadd, 1) := by decide +kernel
theorem dL_law_397 : decode cL_law 397 = .ok (.iaload, 1) := by decide +kernel
theorem dL_law_398 : decode cL_law 398 = .ok (.invokevirtual 39, 3) := by decide +kernel
theorem dL_law_401 : decode cL_law 401 = .ok (.if_icmp .eq 1027, 3) := by decide +kernel
theorem dL_law_404 : decode cL_law 404 = .ok (.iconst 0, 1) := by decide +kernel
theorem dL_law_405 : decode cL_law 405 = .ok (.ireturn, 1) := by decide +kernel
theorem dL_law_406 : decode cL_law 406 = .ok (.aload_n 1, 1) := by decide +kernel
theorem dL_law_407 : decode cL_law 407 = .ok (.aload_n 0, 1) := by decide +kernel
theorem dL_law_408 : decode cL_law 408 = .ok (.iload_n 3, 1) := by decide +kernel
theorem dL_law_409 : decode cL_law 409 = .ok (.iconst 1, 1) := by decide +kernel
theorem dL_law_410 : decode cL_law 410 = .ok (.iadd, 1) := by decide +kernel
theorem dL_law_411 : decode cL_law 411 = .ok (.iaload, 1) := by decide +kernel
theorem dL_law_412 : decode cL_law 412 = .ok (.aload_n 0, 1) := by decide +kernel
theorem dL_law_413 : decode cL_law 413 = .ok (.iload_n 3, 1) := by decide +kernel
theorem dL_law_414 : decode cL_law 414 = .ok (.iconst 2, 1) := by decide +kernel
theorem dL_law_415 : decode cL_law 415 = .ok (.iadd, 1) := by decide +kernel
theorem dL_law_416 : decode cL_law 416 = .ok (.iaload, 1) := by decide +kernel
theorem dL_law_417 : decode cL_law 417 = .ok (.invokevirtual 40, 3) := by decide +kernel
theorem dL_law_420 : decode cL_law 420 = .ok (.aload_n 2, 1) := by decide +kernel
theorem dL_law_421 : decode cL_law 421 = .ok (.aload_n 0, 1) := by decide +kernel
theorem dL_law_422 : decode cL_law 422 = .ok (.iload_n 3, 1) := by decide +kernel
theorem dL_law_423 : decode cL_law 423 = .ok (.iconst 1, 1) := by decide +kernel
theorem dL_law_424 : decode cL_law 424 = .ok (.iadd, 1) := by decide +kernel
theorem dL_law_425 : decode cL_law 425 = .ok (.iaload, 1) := by decide +kernel
theorem dL_law_426 : decode cL_law 426 = .ok (.aload_n 0, 1) := by decide +kernel
theorem dL_law_427 : decode cL_law 427 = .ok (.iload_n 3, 1) := by decide +kernel
theorem dL_law_428 : decode cL_law 428 = .ok (.iconst 2, 1) := by decide +kernel
theorem dL_law_429 : decode cL_law 429 = .ok (.iadd, 1) := by decide +kernel
theorem dL_law_430 : decode cL_law 430 = .ok (.iaload, 1) := by decide +kernel
theorem dL_law_431 : decode cL_law 431 = .ok (.invokevirtual 43, 3) := by decide +kernel
theorem dL_law_434 : decode cL_law 434 = .ok (.if_icmp .eq 994, 3) := by decide +kernel
theorem dL_law_437 : decode cL_law 437 = .ok (.iconst 0, 1) := by decide +kernel
theorem dL_law_438 : decode cL_law 438 = .ok (.ireturn, 1) := by decide +kernel
theorem dL_law_439 : decode cL_law 439 = .ok (.aload_n 1, 1) := by decide +kernel
theorem dL_law_440 : decode cL_law 440 = .ok (.aload_n 0, 1) := by decide +kernel
theorem dL_law_441 : decode cL_law 441 = .ok (.iload_n 3, 1) := by decide +kernel
theorem dL_law_442 : decode cL_law 442 = .ok (.iconst 1, 1) := by decide +kernel
theorem dL_law_443 : decode cL_law 443 = .ok (.iadd, 1) := by decide +kernel
theorem dL_law_444 : decode cL_law 444 = .ok (.iaload, 1) := by decide +kernel
theorem dL_law_445 : decode cL_law 445 = .ok (.aload_n 0, 1) := by decide +kernel
theorem dL_law_446 : decode cL_law 446 = .ok (.iload_n 3, 1) := by decide +kernel
theorem dL_law_447 : decode cL_law 447 = .ok (.iconst 2, 1) := by decide +kernel
theorem dL_law_448 : decode cL_law 448 = .ok (.iadd, 1) := by decide +kernel
theorem dL_law_449 : decode cL_law 449 = .ok (.iaload, 1) := by decide +kernel
theorem dL_law_450 : decode cL_law 450 = .ok (.invokevirtual 44, 3) := by decide +kernel
theorem dL_law_453 : decode cL_law 453 = .ok (.aload_n 2, 1) := by decide +kernel
theorem dL_law_454 : decode cL_law 454 = .ok (.aload_n 0, 1) := by decide +kernel
theorem dL_law_455 : decode cL_law 455 = .ok (.iload_n 3, 1) := by decide +kernel
theorem dL_law_456 : decode cL_law 456 = .ok (.iconst 1, 1) := by decide +kernel
theorem dL_law_457 : decode cL_law 457 = .ok (.iadd, 1) := by decide +kernel
theorem dL_law_458 : decode cL_law 458 = .ok (.iaload, 1) := by decide +kernel
theorem dL_law_459 : decode cL_law 459 = .ok (.aload_n 0, 1) := by decide +kernel
theorem dL_law_460 : decode cL_law 460 = .ok (.iload_n 3, 1) := by decide +kernel
theorem dL_law_461 : decode cL_law 461 = .ok (.iconst 2, 1) := by decide +kernel
theorem dL_law_462 : decode cL_law 462 = .ok (.iadd, 1) := by decide +kernel
theorem dL_law_463 : decode cL_law 463 = .ok (.iaload, 1) := by decide +kernel
theorem dL_law_464 : decode cL_law 464 = .ok (.invokevirtual 47, 3) := by decide +kernel
theorem dL_law_467 : decode cL_law 467 = .ok (.if_icmp .eq 961, 3) := by decide +kernel
theorem dL_law_470 : decode cL_law 470 = .ok (.iconst 0, 1) := by decide +kernel
theorem dL_law_471 : decode cL_law 471 = .ok (.ireturn, 1) := by decide +kernel
theorem dL_law_472 : decode cL_law 472 = .ok (.aload_n 1, 1) := by decide +kernel
theorem dL_law_473 : decode cL_law 473 = .ok (.aload_n 0, 1) := by decide +kernel
theorem dL_law_474 : decode cL_law 474 = .ok (.iload_n 3, 1) := by decide +kernel
theorem dL_law_475 : decode cL_law 475 = .ok (.iconst 1, 1) := by decide +kernel
theorem dL_law_476 : decode cL_law 476 = .ok (.iadd, 1) := by decide +kernel
theorem dL_law_477 : decode cL_law 477 = .ok (.iaload, 1) := by decide +kernel
theorem dL_law_478 : decode cL_law 478 = .ok (.aload_n 0, 1) := by decide +kernel
theorem dL_law_479 : decode cL_law 479 = .ok (.iload_n 3, 1) := by decide +kernel
theorem dL_law_480 : decode cL_law 480 = .ok (.iconst 2, 1) := by decide +kernel
theorem dL_law_481 : decode cL_law 481 = .ok (.iadd, 1) := by decide +kernel
theorem dL_law_482 : decode cL_law 482 = .ok (.iaload, 1) := by decide +kernel
theorem dL_law_483 : decode cL_law 483 = .ok (.aload_n 0, 1) := by decide +kernel
theorem dL_law_484 : decode cL_law 484 = .ok (.iload_n 3, 1) := by decide +kernel
theorem dL_law_485 : decode cL_law 485 = .ok (.iconst 3, 1) := by decide +kernel
theorem dL_law_486 : decode cL_law 486 = .ok (.iadd, 1) := by decide +kernel
theorem dL_law_487 : decode cL_law 487 = .ok (.iaload, 1) := by decide +kernel
theorem dL_law_488 : decode cL_law 488 = .ok (.invokevirtual 48, 3) := by decide +kernel
theorem dL_law_491 : decode cL_law 491 = .ok (.aload_n 2, 1) := by decide +kernel
theorem dL_law_492 : decode cL_law 492 = .ok (.aload_n 0, 1) := by decide +kernel
theorem dL_law_493 : decode cL_law 493 = .ok (.iload_n 3, 1) := by decide +kernel
theorem dL_law_494 : decode cL_law 494 = .ok (.iconst 1, 1) := by decide +kernel
theorem dL_law_495 : decode cL_law 495 = .ok (.iadd, 1) := by decide +kernel
theorem dL_law_496 : decode cL_law 496 = .ok (.iaload, 1) := by decide +kernel
theorem dL_law_497 : decode cL_law 497 = .ok (.aload_n 0, 1) := by decide +kernel
theorem dL_law_498 : decode cL_law 498 = .ok (.iload_n 3, 1) := by decide +kernel
theorem dL_law_499 : decode cL_law 499 = .ok (.iconst 2, 1) := by decide +kernel
theorem dL_law_500 : decode cL_law 500 = .ok (.iadd, 1) := by decide +kernel
theorem dL_law_501 : decode cL_law 501 = .ok (.iaload, 1) := by decide +kernel
theorem dL_law_502 : decode cL_law 502 = .ok (.aload_n 0, 1) := by decide +kernel
theorem dL_law_503 : decode cL_law 503 = .ok (.iload_n 3, 1) := by decide +kernel
theorem dL_law_504 : decode cL_law 504 = .ok (.iconst 3, 1) := by decide +kernel
theorem dL_law_505 : decode cL_law 505 = .ok (.iadd, 1) := by decide +kernel
theorem dL_law_506 : decode cL_law 506 = .ok (.iaload, 1) := by decide +kernel
theorem dL_law_507 : decode cL_law 507 = .ok (.invokevirtual 51, 3) := by decide +kernel
theorem dL_law_510 : decode cL_law 510 = .ok (.if_icmp .eq 918, 3) := by decide +kernel
theorem dL_law_513 : decode cL_law 513 = .ok (.iconst 0, 1) := by decide +kernel
theorem dL_law_514 : decode cL_law 514 = .ok (.ireturn, 1) := by decide +kernel
theorem dL_law_515 : decode cL_law 515 = .ok (.aload_n 1, 1) := by decide +kernel
theorem dL_law_516 : decode cL_law 516 = .ok (.aload_n 0, 1) := by decide +kernel
theorem dL_law_517 : decode cL_law 517 = .ok (.iload_n 3, 1) := by decide +kernel
theorem dL_law_518 : decode cL_law 518 = .ok (.iconst 1, 1) := by decide +kernel
theorem dL_law_519 : decode cL_law 519 = .ok (.iadd, 1) := by decide +kernel
theorem dL_law_520 : decode cL_law 520 = .ok (.iaload, 1) := by decide +kernel
theorem dL_law_521 : decode cL_law 521 = .ok (.aload_n 0, 1) := by decide +kernel
theorem dL_law_522 : decode cL_law 522 = .ok (.iload_n 3, 1) := by decide +kernel
theorem dL_law_523 : decode cL_law 523 = .ok (.iconst 2, 1) := by decide +kernel
theorem dL_law_524 : decode cL_law 524 = .ok (.iadd, 1) := by decide +kernel
theorem dL_law_525 : decode cL_law 525 = .ok (.iaload, 1) := by decide +kernel
theorem dL_law_526 : decode cL_law 526 = .ok (.invokevirtual 52, 3) := by decide +kernel
theorem dL_law_529 : decode cL_law 529 = .ok (.aload_n 2, 1) := by decide +kernel
theorem dL_law_530 : decode cL_law 530 = .ok (.aload_n 0, 1) := by decide +kernel
theorem dL_law_531 : decode cL_law 531 = .ok (.iload_n 3, 1) := by decide +kernel
theorem dL_law_532 : decode cL_law 532 = .ok (.iconst 1, 1) := by decide +kernel
theorem dL_law_533 : decode cL_law 533 = .ok (.iadd, 1) := by decide +kernel
theorem dL_law_534 : decode cL_law 534 = .ok (.iaload, 1) := by decide +kernel
theorem dL_law_535 : decode cL_law 535 = .ok (.aload_n 0, 1) := by decide +kernel
theorem dL_law_536 : decode cL_law 536 = .ok (.iload_n 3, 1) := by decide +kernel
theorem dL_law_537 : decode cL_law 537 = .ok (.iconst 2, 1) := by decide +kernel
theorem dL_law_538 : decode cL_law 538 = .ok (.iadd, 1) := by decide +kernel
theorem dL_law_539 : decode cL_law 539 = .ok (.iaload, 1) := by decide +kernel
theorem dL_law_540 : decode cL_law 540 = .ok (.invokevirtual 55, 3) := by decide +kernel
theorem dL_law_543 : decode cL_law 543 = .ok (.if_icmp .eq 885, 3) := by decide +kernel
theorem dL_law_546 : decode cL_law 546 = .ok (.iconst 0, 1) := by decide +kernel
theorem dL_law_547 : decode cL_law 547 = .ok (.ireturn, 1) := by decide +kernel
theorem dL_law_548 : decode cL_law 548 = .ok (.aload_n 1, 1) := by decide +kernel
theorem dL_law_549 : decode cL_law 549 = .ok (.invokevirtual 56, 3) := by decide +kernel
theorem dL_law_552 : decode cL_law 552 = .ok (.aload_n 2, 1) := by decide +kernel
theorem dL_law_553 : decode cL_law 553 = .ok (.invokevirtual 60, 3) := by decide +kernel
theorem dL_law_556 : decode cL_law 556 = .ok (.if_icmp .eq 872, 3) := by decide +kernel
theorem dL_law_559 : decode cL_law 559 = .ok (.iconst 0, 1) := by decide +kernel
theorem dL_law_560 : decode cL_law 560 = .ok (.ireturn, 1) := by decide +kernel
theorem dL_law_561 : decode cL_law 561 = .ok (.aload_n 1, 1) := by decide +kernel
theorem dL_law_562 : decode cL_law 562 = .ok (.aload_n 0, 1) := by decide +kernel
theorem dL_law_563 : decode cL_law 563 = .ok (.iload_n 3, 1) := by decide +kernel
theorem dL_law_564 : decode cL_law 564 = .ok (.iconst 1, 1) := by decide +kernel
theorem dL_law_565 : decode cL_law 565 = .ok (.iadd, 1) := by decide +kernel
theorem dL_law_566 : decode cL_law 566 = .ok (.iaload, 1) := by decide +kernel
theorem dL_law_567 : decode cL_law 567 = .ok (.i2l, 1) := by decide +kernel
theorem dL_law_568 : decode cL_law 568 = .ok (.bipush 32, 2) := by decide +kernel
theorem dL_law_570 : decode cL_law 570 = .ok (.lshl, 1) := by decide +kernel
theorem dL_law_571 : decode cL_law 571 = .ok (.aload_n 0, 1) := by decide +kernel
theorem dL_law_572 : decode cL_law 572 = .ok (.iload_n 3, 1) := by decide +kernel
theorem dL_law_573 : decode cL_law 573 = .ok (.iconst 2, 1) := by decide +kernel
theorem dL_law_574 : decode cL_law 574 = .ok (.iadd, 1) := by decide +kernel
theorem dL_law_575 : decode cL_law 575 = .ok (.iaload, 1) := by decide +kernel
theorem dL_law_576 : decode cL_law 576 = .ok (.i2l, 1) := by decide +kernel
theorem dL_law_577 : decode cL_law 577 = .ok (.ldc2_w 61, 3) := by decide +kernel
theorem dL_law_580 : decode cL_law 580 = .ok (.land, 1) := by decide +kernel
theorem dL_law_581 : decode cL_law 581 = .ok (.lor, 1) := by decide +kernel
theorem dL_law_582 : decode cL_law 582 = .ok (.aload_n 0, 1) := by decide +kernel
theorem dL_law_583 : decode cL_law 583 = .ok (.iload_n 3, 1) := by decide +kernel
theorem dL_law_584 : decode cL_law 584 = .ok (.iconst 3, 1) := by decide +kernel
theorem dL_law_585 : decode cL_law 585 = .ok (.iadd, 1) := by decide +kernel
theorem dL_law_586 : decode cL_law 586 = .ok (.iaload, 1) := by decide +kernel
theorem dL_law_587 : decode cL_law 587 = .ok (.invokevirtual 63, 3) := by decide +kernel
theorem dL_law_590 : decode cL_law 590 = .ok (.aload_n 2, 1) := by decide +kernel
theorem dL_law_591 : decode cL_law 591 = .ok (.aload_n 0, 1) := by decide +kernel
theorem dL_law_592 : decode cL_law 592 = .ok (.iload_n 3, 1) := by decide +kernel
theorem dL_law_593 : decode cL_law 593 = .ok (.iconst 1, 1) := by decide +kernel
theorem dL_law_594 : decode cL_law 594 = .ok (.iadd, 1) := by decide +kernel
theorem dL_law_595 : decode cL_law 595 = .ok (.iaload, 1) := by decide +kernel
theorem dL_law_596 : decode cL_law 596 = .ok (.i2l, 1) := by decide +kernel
theorem dL_law_597 : decode cL_law 597 = .ok (.bipush 32, 2) := by decide +kernel
theorem dL_law_599 : decode cL_law 599 = .ok (.lshl, 1) := by decide +kernel
theorem dL_law_600 : decode cL_law 600 = .ok (.aload_n 0, 1) := by decide +kernel
theorem dL_law_601 : decode cL_law 601 = .ok (.iload_n 3, 1) := by decide +kernel
theorem dL_law_602 : decode cL_law 602 = .ok (.iconst 2, 1) := by decide +kernel
theorem dL_law_603 : decode cL_law 603 = .ok (.iadd, 1) := by decide +kernel
theorem dL_law_604 : decode cL_law 604 = .ok (.iaload, 1) := by decide +kernel
theorem dL_law_605 : decode cL_law 605 = .ok (.i2l, 1) := by decide +kernel
theorem dL_law_606 : decode cL_law 606 = .ok (.ldc2_w 61, 3) := by decide +kernel
theorem dL_law_609 : decode cL_law 609 = .ok (.land, 1) := by decide +kernel
theorem dL_law_610 : decode cL_law 610 = .ok (.lor, 1) := by decide +kernel
theorem dL_law_611 : decode cL_law 611 = .ok (.aload_n 0, 1) := by decide +kernel
theorem dL_law_612 : decode cL_law 612 = .ok (.iload_n 3, 1) := by decide +kernel
theorem dL_law_613 : decode cL_law 613 = .ok (.iconst 3, 1) := by decide +kernel
theorem dL_law_614 : decode cL_law 614 = .ok (.iadd, 1) := by decide +kernel
theorem dL_law_615 : decode cL_law 615 = .ok (.iaload, 1) := by decide +kernel
theorem dL_law_616 : decode cL_law 616 = .ok (.invokevirtual 67, 3) := by decide +kernel
theorem dL_law_619 : decode cL_law 619 = .ok (.if_icmp .eq 809, 3) := by decide +kernel
theorem dL_law_622 : decode cL_law 622 = .ok (.iconst 0, 1) := by decide +kernel
theorem dL_law_623 : decode cL_law 623 = .ok (.ireturn, 1) := by decide +kernel
theorem dL_law_624 : decode cL_law 624 = .ok (.aload_n 1, 1) := by decide +kernel
theorem dL_law_625 : decode cL_law 625 = .ok (.aload_n 0, 1) := by decide +kernel
theorem dL_law_626 : decode cL_law 626 = .ok (.iload_n 3, 1) := by decide +kernel
theorem dL_law_627 : decode cL_law 627 = .ok (.iconst 1, 1) := by decide +kernel
theorem dL_law_628 : decode cL_law 628 = .ok (.iadd, 1) := by decide +kernel
theorem dL_law_629 : decode cL_law 629 = .ok (.iaload, 1) := by decide +kernel
theorem dL_law_630 : decode cL_law 630 = .ok (.invokevirtual 68, 3) := by decide +kernel
theorem dL_law_633 : decode cL_law 633 = .ok (.aload_n 2, 1) := by decide +kernel
theorem dL_law_634 : decode cL_law 634 = .ok (.aload_n 0, 1) := by decide +kernel
theorem dL_law_635 : decode cL_law 635 = .ok (.iload_n 3, 1) := by decide +kernel
theorem dL_law_636 : decode cL_law 636 = .ok (.iconst 1, 1) := by decide +kernel
theorem dL_law_637 : decode cL_law 637 = .ok (.iadd, 1) := by decide +kernel
theorem dL_law_638 : decode cL_law 638 = .ok (.iaload, 1) := by decide +kernel
theorem dL_law_639 : decode cL_law 639 = .ok (.invokevirtual 71, 3) := by decide +kernel
theorem dL_law_642 : decode cL_law 642 = .ok (.if_icmp .eq 786, 3) := by decide +kernel
theorem dL_law_645 : decode cL_law 645 = .ok (.iconst 0, 1) := by decide +kernel
theorem dL_law_646 : decode cL_law 646 = .ok (.ireturn, 1) := by decide +kernel
theorem dL_law_647 : decode cL_law 647 = .ok (.aload_n 1, 1) := by decide +kernel
theorem dL_law_648 : decode cL_law 648 = .ok (.aload_n 0, 1) := by decide +kernel
theorem dL_law_649 : decode cL_law 649 = .ok (.iload_n 3, 1) := by decide +kernel
theorem dL_law_650 : decode cL_law 650 = .ok (.iconst 1, 1) := by decide +kernel
theorem dL_law_651 : decode cL_law 651 = .ok (.iadd, 1) := by decide +kernel
theorem dL_law_652 : decode cL_law 652 = .ok (.iaload, 1) := by decide +kernel
theorem dL_law_653 : decode cL_law 653 = .ok (.invokevirtual 72, 3) := by decide +kernel
theorem dL_law_656 : decode cL_law 656 = .ok (.aload_n 2, 1) := by decide +kernel
theorem dL_law_657 : decode cL_law 657 = .ok (.aload_n 0, 1) := by decide +kernel
theorem dL_law_658 : decode cL_law 658 = .ok (.iload_n 3, 1) := by decide +kernel
theorem dL_law_659 : decode cL_law 659 = .ok (.iconst 1, 1) := by decide +kernel
theorem dL_law_660 : decode cL_law 660 = .ok (.iadd, 1) := by decide +kernel
theorem dL_law_661 : decode cL_law 661 = .ok (.iaload, 1) := by decide +kernel
theorem dL_law_662 : decode cL_law 662 = .ok (.invokevirtual 75, 3) := by decide +kernel
theorem dL_law_665 : decode cL_law 665 = .ok (.if_icmp .eq 763, 3) := by decide +kernel
theorem dL_law_668 : decode cL_law 668 = .ok (.iconst 0, 1) := by decide +kernel
theorem dL_law_669 : decode cL_law 669 = .ok (.ireturn, 1) := by decide +kernel
theorem dL_law_670 : decode cL_law 670 = .ok (.aload_n 1, 1) := by decide +kernel
theorem dL_law_671 : decode cL_law 671 = .ok (.invokevirtual 76, 3) := by decide +kernel
theorem dL_law_674 : decode cL_law 674 = .ok (.aload_n 2, 1) := by decide +kernel
theorem dL_law_675 : decode cL_law 675 = .ok (.invokevirtual 79, 3) := by decide +kernel
theorem dL_law_678 : decode cL_law 678 = .ok (.if_icmp .eq 750, 3) := by decide +kernel
theorem dL_law_681 : decode cL_law 681 = .ok (.iconst 0, 1) := by decide +kernel
theorem dL_law_682 : decode cL_law 682 = .ok (.ireturn, 1) := by decide +kernel
theorem dL_law_683 : decode cL_law 683 = .ok (.aload_n 1, 1) := by decide +kernel
theorem dL_law_684 : decode cL_law 684 = .ok (.aload_n 0, 1) := by decide +kernel
theorem dL_law_685 : decode cL_law 685 = .ok (.iload_n 3, 1) := by decide +kernel
theorem dL_law_686 : decode cL_law 686 = .ok (.iconst 1, 1) := by decide +kernel
theorem dL_law_687 : decode cL_law 687 = .ok (.iadd, 1) := by decide +kernel
theorem dL_law_688 : decode cL_law 688 = .ok (.iaload, 1) := by decide +kernel
theorem dL_law_689 : decode cL_law 689 = .ok (.invokevirtual 80, 3) := by decide +kernel
theorem dL_law_692 : decode cL_law 692 = .ok (.aload_n 2, 1) := by decide +kernel
theorem dL_law_693 : decode cL_law 693 = .ok (.aload_n 0, 1) := by decide +kernel
theorem dL_law_694 : decode cL_law 694 = .ok (.iload_n 3, 1) := by decide +kernel
theorem dL_law_695 : decode cL_law 695 = .ok (.iconst 1, 1) := by decide +kernel
theorem dL_law_696 : decode cL_law 696 = .ok (.iadd, 1) := by decide +kernel
theorem dL_law_697 : decode cL_law 697 = .ok (.iaload, 1) := by decide +kernel
theorem dL_law_698 : decode cL_law 698 = .ok (.invokevirtual 83, 3) := by decide +kernel
theorem dL_law_701 : decode cL_law 701 = .ok (.if_icmp .eq 727, 3) := by decide +kernel
theorem dL_law_704 : decode cL_law 704 = .ok (.iconst 0, 1) := by decide +kernel
theorem dL_law_705 : decode cL_law 705 = .ok (.ireturn, 1) := by decide +kernel
theorem dL_law_706 : decode cL_law 706 = .ok (.aload_n 1, 1) := by decide +kernel
theorem dL_law_707 : decode cL_law 707 = .ok (.aload_n 0, 1) := by decide +kernel
theorem dL_law_708 : decode cL_law 708 = .ok (.iload_n 3, 1) := by decide +kernel
theorem dL_law_709 : decode cL_law 709 = .ok (.iconst 1, 1) := by decide +kernel
theorem dL_law_710 : decode cL_law 710 = .ok (.iadd, 1) := by decide +kernel
theorem dL_law_711 : decode cL_law 711 = .ok (.iaload, 1) := by decide +kernel
theorem dL_law_712 : decode cL_law 712 = .ok (.invokevirtual 84, 3) := by decide +kernel
theorem dL_law_715 : decode cL_law 715 = .ok (.aload_n 2, 1) := by decide +kernel
theorem dL_law_716 : decode cL_law 716 = .ok (.aload_n 0, 1) := by decide +kernel
theorem dL_law_717 : decode cL_law 717 = .ok (.iload_n 3, 1) := by decide +kernel
theorem dL_law_718 : decode cL_law 718 = .ok (.iconst 1, 1) := by decide +kernel
theorem dL_law_719 : decode cL_law 719 = .ok (.iadd, 1) := by decide +kernel
theorem dL_law_720 : decode cL_law 720 = .ok (.iaload, 1) := by decide +kernel
theorem dL_law_721 : decode cL_law 721 = .ok (.invokevirtual 87, 3) := by decide +kernel
theorem dL_law_724 : decode cL_law 724 = .ok (.if_icmp .eq 704, 3) := by decide +kernel
theorem dL_law_727 : decode cL_law 727 = .ok (.iconst 0, 1) := by decide +kernel
theorem dL_law_728 : decode cL_law 728 = .ok (.ireturn, 1) := by decide +kernel
theorem dL_law_729 : decode cL_law 729 = .ok (.aload_n 1, 1) := by decide +kernel
theorem dL_law_730 : decode cL_law 730 = .ok (.aload_n 0, 1) := by decide +kernel
theorem dL_law_731 : decode cL_law 731 = .ok (.iload_n 3, 1) := by decide +kernel
theorem dL_law_732 : decode cL_law 732 = .ok (.iconst 1, 1) := by decide +kernel
theorem dL_law_733 : decode cL_law 733 = .ok (.iadd, 1) := by decide +kernel
theorem dL_law_734 : decode cL_law 734 = .ok (.iaload, 1) := by decide +kernel
theorem dL_law_735 : decode cL_law 735 = .ok (.invokevirtual 88, 3) := by decide +kernel
theorem dL_law_738 : decode cL_law 738 = .ok (.aload_n 2, 1) := by decide +kernel
theorem dL_law_739 : decode cL_law 739 = .ok (.aload_n 0, 1) := by decide +kernel
theorem dL_law_740 : decode cL_law 740 = .ok (.iload_n 3, 1) := by decide +kernel
theorem dL_law_741 : decode cL_law 741 = .ok (.iconst 1, 1) := by decide +kernel
theorem dL_law_742 : decode cL_law 742 = .ok (.iadd, 1) := by decide +kernel
theorem dL_law_743 : decode cL_law 743 = .ok (.iaload, 1) := by decide +kernel
theorem dL_law_744 : decode cL_law 744 = .ok (.invokevirtual 91, 3) := by decide +kernel
theorem dL_law_747 : decode cL_law 747 = .ok (.if_icmp .eq 681, 3) := by decide +kernel
theorem dL_law_750 : decode cL_law 750 = .ok (.iconst 0, 1) := by decide +kernel
theorem dL_law_751 : decode cL_law 751 = .ok (.ireturn, 1) := by decide +kernel
theorem dL_law_752 : decode cL_law 752 = .ok (.aload_n 1, 1) := by decide +kernel
theorem dL_law_753 : decode cL_law 753 = .ok (.aload_n 0, 1) := by decide +kernel
theorem dL_law_754 : decode cL_law 754 = .ok (.iload_n 3, 1) := by decide +kernel
theorem dL_law_755 : decode cL_law 755 = .ok (.iconst 1, 1) := by decide +kernel
theorem dL_law_756 : decode cL_law 756 = .ok (.iadd, 1) := by decide +kernel
theorem dL_law_757 : decode cL_law 757 = .ok (.iaload, 1) := by decide +kernel
theorem dL_law_758 : decode cL_law 758 = .ok (.invokevirtual 92, 3) := by decide +kernel
theorem dL_law_761 : decode cL_law 761 = .ok (.aload_n 2, 1) := by decide +kernel
theorem dL_law_762 : decode cL_law 762 = .ok (.aload_n 0, 1) := by decide +kernel
theorem dL_law_763 : decode cL_law 763 = .ok (.iload_n 3, 1) := by decide +kernel
theorem dL_law_764 : decode cL_law 764 = .ok (.iconst 1, 1) := by decide +kernel
theorem dL_law_765 : decode cL_law 765 = .ok (.iadd, 1) := by decide +kernel
theorem dL_law_766 : decode cL_law 766 = .ok (.iaload, 1) := by decide +kernel
theorem dL_law_767 : decode cL_law 767 = .ok (.invokevirtual 95, 3) := by decide +kernel
theorem dL_law_770 : decode cL_law 770 = .ok (.if_icmp .eq 658, 3) := by decide +kernel
theorem dL_law_773 : decode cL_law 773 = .ok (.iconst 0, 1) := by decide +kernel
theorem dL_law_774 : decode cL_law 774 = .ok (.ireturn, 1) := by decide +kernel
theorem dL_law_775 : decode cL_law 775 = .ok (.aload_n 1, 1) := by decide +kernel
theorem dL_law_776 : decode cL_law 776 = .ok (.aload_n 0, 1) := by decide +kernel
theorem dL_law_777 : decode cL_law 777 = .ok (.iload_n 3, 1) := by decide +kernel
theorem dL_law_778 : decode cL_law 778 = .ok (.iconst 1, 1) := by decide +kernel
theorem dL_law_779 : decode cL_law 779 = .ok (.iadd, 1) := by decide +kernel
theorem dL_law_780 : decode cL_law 780 = .ok (.iaload, 1) := by decide +kernel
theorem dL_law_781 : decode cL_law 781 = .ok (.aload_n 0, 1) := by decide +kernel
theorem dL_law_782 : decode cL_law 782 = .ok (.iload_n 3, 1) := by decide +kernel
theorem dL_law_783 : decode cL_law 783 = .ok (.iconst 2, 1) := by decide +kernel
theorem dL_law_784 : decode cL_law 784 = .ok (.iadd, 1) := by decide +kernel
theorem dL_law_785 : decode cL_law 785 = .ok (.iaload, 1) := by decide +kernel
theorem dL_law_786 : decode cL_law 786 = .ok (.aload_n 0, 1) := by decide +kernel
theorem dL_law_787 : decode cL_law 787 = .ok (.iload_n 3, 1) := by decide +kernel
theorem dL_law_788 : decode cL_law 788 = .ok (.iconst 3, 1) := by decide +kernel
theorem dL_law_789 : decode cL_law 789 = .ok (.iadd, 1) := by decide +kernel
theorem dL_law_790 : decode cL_law 790 = .ok (.iaload, 1) := by decide +kernel
theorem dL_law_791 : decode cL_law 791 = .ok (.invokevirtual 96, 3) := by decide +kernel
theorem dL_law_794 : decode cL_law 794 = .ok (.aload_n 2, 1) := by decide +kernel
theorem dL_law_795 : decode cL_law 795 = .ok (.aload_n 0, 1) := by decide +kernel
theorem dL_law_796 : decode cL_law 796 = .ok (.iload_n 3, 1) := by decide +kernel
theorem dL_law_797 : decode cL_law 797 = .ok (.iconst 1, 1) := by decide +kernel
theorem dL_law_798 : decode cL_law 798 = .ok (.iadd, 1) := by decide +kernel
theorem dL_law_799 : decode cL_law 799 = .ok (.iaload, 1) := by decide +kernel
theorem dL_law_800 : decode cL_law 800 = .ok (.aload_n 0, 1) := by decide +kernel
theorem dL_law_801 : decode cL_law 801 = .ok (.iload_n 3, 1) := by decide +kernel
theorem dL_law_802 : decode cL_law 802 = .ok (.iconst 2, 1) := by decide +kernel
theorem dL_law_803 : decode cL_law 803 = .ok (.iadd, 1) := by decide +kernel
theorem dL_law_804 : decode cL_law 804 = .ok (.iaload, 1) := by decide +kernel
theorem dL_law_805 : decode cL_law 805 = .ok (.aload_n 0, 1) := by decide +kernel
theorem dL_law_806 : decode cL_law 806 = .ok (.iload_n 3, 1) := by decide +kernel
theorem dL_law_807 : decode cL_law 807 = .ok (.iconst 3, 1) := by decide +kernel
theorem dL_law_808 : decode cL_law 808 = .ok (.iadd, 1) := by decide +kernel
theorem dL_law_809 : decode cL_law 809 = .ok (.iaload, 1) := by decide +kernel
theorem dL_law_810 : decode cL_law 810 = .ok (.invokevirtual 99, 3) := by decide +kernel
theorem dL_law_813 : decode cL_law 813 = .ok (.if_icmp .eq 615, 3) := by decide +kernel
theorem dL_law_816 : decode cL_law 816 = .ok (.iconst 0, 1) := by decide +kernel
theorem dL_law_817 : decode cL_law 817 = .ok (.ireturn, 1) := by decide +kernel
theorem dL_law_818 : decode cL_law 818 = .ok (.aload_n 1, 1) := by decide +kernel
theorem dL_law_819 : decode cL_law 819 = .ok (.aload_n 0, 1) := by decide +kernel
theorem dL_law_820 : decode cL_law 820 = .ok (.iload_n 3, 1) := by decide +kernel
theorem dL_law_821 : decode cL_law 821 = .ok (.iconst 1, 1) := by decide +kernel
theorem dL_law_822 : decode cL_law 822 = .ok (.iadd, 1) := by decide +kernel
theorem dL_law_823 : decode cL_law 823 = .ok (.iaload, 1) := by decide +kernel
theorem dL_law_824 : decode cL_law 824 = .ok (.aload_n 0, 1) := by decide +kernel
theorem dL_law_825 : decode cL_law 825 = .ok (.iload_n 3, 1) := by decide +kernel
theorem dL_law_826 : decode cL_law 826 = .ok (.iconst 2, 1) := by decide +kernel
theorem dL_law_827 : decode cL_law 827 = .ok (.iadd, 1) := by decide +kernel
theorem dL_law_828 : decode cL_law 828 = .ok (.iaload, 1) := by decide +kernel
theorem dL_law_829 : decode cL_law 829 = .ok (.aload_n 0, 1) := by decide +kernel
theorem dL_law_830 : decode cL_law 830 = .ok (.iload_n 3, 1) := by decide +kernel
theorem dL_law_831 : decode cL_law 831 = .ok (.iconst 3, 1) := by decide +kernel
theorem dL_law_832 : decode cL_law 832 = .ok (.iadd, 1) := by decide +kernel
theorem dL_law_833 : decode cL_law 833 = .ok (.iaload, 1) := by decide +kernel
theorem dL_law_834 : decode cL_law 834 = .ok (.invokevirtual 100, 3) := by decide +kernel
theorem dL_law_837 : decode cL_law 837 = .ok (.aload_n 2, 1) := by decide +kernel
theorem dL_law_838 : decode cL_law 838 = .ok (.aload_n 0, 1) := by decide +kernel
theorem dL_law_839 : decode cL_law 839 = .ok (.iload_n 3, 1) := by decide +kernel
theorem dL_law_840 : decode cL_law 840 = .ok (.iconst 1, 1) := by decide +kernel
theorem dL_law_841 : decode cL_law 841 = .ok (.iadd, 1) := by decide +kernel
theorem dL_law_842 : decode cL_law 842 = .ok (.iaload, 1) := by decide +kernel
theorem dL_law_843 : decode cL_law 843 = .ok (.aload_n 0, 1) := by decide +kernel
theorem dL_law_844 : decode cL_law 844 = .ok (.iload_n 3, 1) := by decide +kernel
theorem dL_law_845 : decode cL_law 845 = .ok (.iconst 2, 1) := by decide +kernel
theorem dL_law_846 : decode cL_law 846 = .ok (.iadd, 1) := by decide +kernel
theorem dL_law_847 : decode cL_law 847 = .ok (.iaload, 1) := by decide +kernel
theorem dL_law_848 : decode cL_law 848 = .ok (.aload_n 0, 1) := by decide +kernel
theorem dL_law_849 : decode cL_law 849 = .ok (.iload_n 3, 1) := by decide +kernel
theorem dL_law_850 : decode cL_law 850 = .ok (.iconst 3, 1) := by decide +kernel
theorem dL_law_851 : decode cL_law 851 = .ok (.iadd, 1) := by decide +kernel
theorem dL_law_852 : decode cL_law 852 = .ok (.iaload, 1) := by decide +kernel
theorem dL_law_853 : decode cL_law 853 = .ok (.invokevirtual 103, 3) := by decide +kernel
theorem dL_law_856 : decode cL_law 856 = .ok (.if_icmp .eq 572, 3) := by decide +kernel
theorem dL_law_859 : decode cL_law 859 = .ok (.iconst 0, 1) := by decide +kernel
theorem dL_law_860 : decode cL_law 860 = .ok (.ireturn, 1) := by decide +kernel
theorem dL_law_861 : decode cL_law 861 = .ok (.aload_n 1, 1) := by decide +kernel
theorem dL_law_862 : decode cL_law 862 = .ok (.aload_n 0, 1) := by decide +kernel
theorem dL_law_863 : decode cL_law 863 = .ok (.iload_n 3, 1) := by decide +kernel
theorem dL_law_864 : decode cL_law 864 = .ok (.iconst 1, 1) := by decide +kernel
theorem dL_law_865 : decode cL_law 865 = .ok (.iadd, 1) := by decide +kernel
theorem dL_law_866 : decode cL_law 866 = .ok (.iaload, 1) := by decide +kernel
theorem dL_law_867 : decode cL_law 867 = .ok (.aload_n 0, 1) := by decide +kernel
theorem dL_law_868 : decode cL_law 868 = .ok (.iload_n 3, 1) := by decide +kernel
theorem dL_law_869 : decode cL_law 869 = .ok (.iconst 2, 1) := by decide +kernel
theorem dL_law_870 : decode cL_law 870 = .ok (.iadd, 1) := by decide +kernel
theorem dL_law_871 : decode cL_law 871 = .ok (.iaload, 1) := by decide +kernel
theorem dL_law_872 : decode cL_law 872 = .ok (.invokevirtual 104, 3) := by decide +kernel
theorem dL_law_875 : decode cL_law 875 = .ok (.aload_n 2, 1) := by decide +kernel
theorem dL_law_876 : decode cL_law 876 = .ok (.aload_n 0, 1) := by decide +kernel
theorem dL_law_877 : decode cL_law 877 = .ok (.iload_n 3, 1) := by decide +kernel
theorem dL_law_878 : decode cL_law 878 = .ok (.iconst 1, 1) := by decide +kernel
theorem dL_law_879 : decode cL_law 879 = .ok (.iadd, 1) := by decide +kernel
theorem dL_law_880 : decode cL_law 880 = .ok (.iaload, 1) := by decide +kernel
theorem dL_law_881 : decode cL_law 881 = .ok (.aload_n 0, 1) := by decide +kernel
theorem dL_law_882 : decode cL_law 882 = .ok (.iload_n 3, 1) := by decide +kernel
theorem dL_law_883 : decode cL_law 883 = .ok (.iconst 2, 1) := by decide +kernel
theorem dL_law_884 : decode cL_law 884 = .ok (.iadd, 1) := by decide +kernel
theorem dL_law_885 : decode cL_law 885 = .ok (.iaload, 1) := by decide +kernel
theorem dL_law_886 : decode cL_law 886 = .ok (.invokevirtual 107, 3) := by decide +kernel
theorem dL_law_889 : decode cL_law 889 = .ok (.if_icmp .eq 539, 3) := by decide +kernel
theorem dL_law_892 : decode cL_law 892 = .ok (.iconst 0, 1) := by decide +kernel
theorem dL_law_893 : decode cL_law 893 = .ok (.ireturn, 1) := by decide +kernel
theorem dL_law_894 : decode cL_law 894 = .ok (.aload_n 1, 1) := by decide +kernel
theorem dL_law_895 : decode cL_law 895 = .ok (.aload_n 0, 1) := by decide +kernel
theorem dL_law_896 : decode cL_law 896 = .ok (.iload_n 3, 1) := by decide +kernel
theorem dL_law_897 : decode cL_law 897 = .ok (.iconst 1, 1) := by decide +kernel
theorem dL_law_898 : decode cL_law 898 = .ok (.iadd, 1) := by decide +kernel
theorem dL_law_899 : decode cL_law 899 = .ok (.iaload, 1) := by decide +kernel
theorem dL_law_900 : decode cL_law 900 = .ok (.aload_n 0, 1) := by decide +kernel
theorem dL_law_901 : decode cL_law 901 = .ok (.iload_n 3, 1) := by decide +kernel
theorem dL_law_902 : decode cL_law 902 = .ok (.iconst 2, 1) := by decide +kernel
theorem dL_law_903 : decode cL_law 903 = .ok (.iadd, 1) := by decide +kernel
theorem dL_law_904 : decode cL_law 904 = .ok (.iaload, 1) := by decide +kernel
theorem dL_law_905 : decode cL_law 905 = .ok (.invokevirtual 108, 3) := by decide +kernel
theorem dL_law_908 : decode cL_law 908 = .ok (.aload_n 2, 1) := by decide +kernel
theorem dL_law_909 : decode cL_law 909 = .ok (.aload_n 0, 1) := by decide +kernel
theorem dL_law_910 : decode cL_law 910 = .ok (.iload_n 3, 1) := by decide +kernel
theorem dL_law_911 : decode cL_law 911 = .ok (.iconst 1, 1) := by decide +kernel
theorem dL_law_912 : decode cL_law 912 = .ok (.iadd, 1) := by decide +kernel
theorem dL_law_913 : decode cL_law 913 = .ok (.iaload, 1) := by decide +kernel
theorem dL_law_914 : decode cL_law 914 = .ok (.aload_n 0, 1) := by decide +kernel
theorem dL_law_915 : decode cL_law 915 = .ok (.iload_n 3, 1) := by decide +kernel
theorem dL_law_916 : decode cL_law 916 = .ok (.iconst 2, 1) := by decide +kernel
theorem dL_law_917 : decode cL_law 917 = .ok (.iadd, 1) := by decide +kernel
theorem dL_law_918 : decode cL_law 918 = .ok (.iaload, 1) := by decide +kernel
theorem dL_law_919 : decode cL_law 919 = .ok (.invokevirtual 111, 3) := by decide +kernel
theorem dL_law_922 : decode cL_law 922 = .ok (.if_icmp .eq 506, 3) := by decide +kernel
theorem dL_law_925 : decode cL_law 925 = .ok (.iconst 0, 1) := by decide +kernel
theorem dL_law_926 : decode cL_law 926 = .ok (.ireturn, 1) := by decide +kernel
theorem dL_law_927 : decode cL_law 927 = .ok (.aload_n 1, 1) := by decide +kernel
theorem dL_law_928 : decode cL_law 928 = .ok (.aload_n 0, 1) := by decide +kernel
theorem dL_law_929 : decode cL_law 929 = .ok (.iload_n 3, 1) := by decide +kernel
theorem dL_law_930 : decode cL_law 930 = .ok (.iconst 1, 1) := by decide +kernel
theorem dL_law_931 : decode cL_law 931 = .ok (.iadd, 1) := by decide +kernel
theorem dL_law_932 : decode cL_law 932 = .ok (.iaload, 1) := by decide +kernel
theorem dL_law_933 : decode cL_law 933 = .ok (.aload_n 0, 1) := by decide +kernel
theorem dL_law_934 : decode cL_law 934 = .ok (.iload_n 3, 1) := by decide +kernel
theorem dL_law_935 : decode cL_law 935 = .ok (.iconst 2, 1) := by decide +kernel
theorem dL_law_936 : decode cL_law 936 = .ok (.iadd, 1) := by decide +kernel
theorem dL_law_937 : decode cL_law 937 = .ok (.iaload, 1) := by decide +kernel
theorem dL_law_938 : decode cL_law 938 = .ok (.invokevirtual 112, 3) := by decide +kernel
theorem dL_law_941 : decode cL_law 941 = .ok (.aload_n 2, 1) := by decide +kernel
theorem dL_law_942 : decode cL_law 942 = .ok (.aload_n 0, 1) := by decide +kernel
theorem dL_law_943 : decode cL_law 943 = .ok (.iload_n 3, 1) := by decide +kernel
theorem dL_law_944 : decode cL_law 944 = .ok (.iconst 1, 1) := by decide +kernel
theorem dL_law_945 : decode cL_law 945 = .ok (.iadd, 1) := by decide +kernel
theorem dL_law_946 : decode cL_law 946 = .ok (.iaload, 1) := by decide +kernel
theorem dL_law_947 : decode cL_law 947 = .ok (.aload_n 0, 1) := by decide +kernel
theorem dL_law_948 : decode cL_law 948 = .ok (.iload_n 3, 1) := by decide +kernel
theorem dL_law_949 : decode cL_law 949 = .ok (.iconst 2, 1) := by decide +kernel
theorem dL_law_950 : decode cL_law 950 = .ok (.iadd, 1) := by decide +kernel
theorem dL_law_951 : decode cL_law 951 = .ok (.iaload, 1) := by decide +kernel
theorem dL_law_952 : decode cL_law 952 = .ok (.invokevirtual 115, 3) := by decide +kernel
theorem dL_law_955 : decode cL_law 955 = .ok (.if_icmp .eq 473, 3) := by decide +kernel
theorem dL_law_958 : decode cL_law 958 = .ok (.iconst 0, 1) := by decide +kernel
theorem dL_law_959 : decode cL_law 959 = .ok (.ireturn, 1) := by decide +kernel
theorem dL_law_960 : decode cL_law 960 = .ok (.aload_n 1, 1) := by decide +kernel
theorem dL_law_961 : decode cL_law 961 = .ok (.aload_n 0, 1) := by decide +kernel
theorem dL_law_962 : decode cL_law 962 = .ok (.iload_n 3, 1) := by decide +kernel
theorem dL_law_963 : decode cL_law 963 = .ok (.iconst 1, 1) := by decide +kernel
theorem dL_law_964 : decode cL_law 964 = .ok (.iadd, 1) := by decide +kernel
theorem dL_law_965 : decode cL_law 965 = .ok (.iaload, 1) := by decide +kernel
theorem dL_law_966 : decode cL_law 966 = .ok (.aload_n 0, 1) := by decide +kernel
theorem dL_law_967 : decode cL_law 967 = .ok (.iload_n 3, 1) := by decide +kernel
theorem dL_law_968 : decode cL_law 968 = .ok (.iconst 2, 1) := by decide +kernel
theorem dL_law_969 : decode cL_law 969 = .ok (.iadd, 1) := by decide +kernel
theorem dL_law_970 : decode cL_law 970 = .ok (.iaload, 1) := by decide +kernel
theorem dL_law_971 : decode cL_law 971 = .ok (.invokevirtual 116, 3) := by decide +kernel
theorem dL_law_974 : decode cL_law 974 = .ok (.aload_n 2, 1) := by decide +kernel
theorem dL_law_975 : decode cL_law 975 = .ok (.aload_n 0, 1) := by decide +kernel
theorem dL_law_976 : decode cL_law 976 = .ok (.iload_n 3, 1) := by decide +kernel
theorem dL_law_977 : decode cL_law 977 = .ok (.iconst 1, 1) := by decide +kernel
theorem dL_law_978 : decode cL_law 978 = .ok (.iadd, 1) := by decide +kernel
theorem dL_law_979 : decode cL_law 979 = .ok (.iaload, 1) := by decide +kernel
theorem dL_law_980 : decode cL_law 980 = .ok (.aload_n 0, 1) := by decide +kernel
theorem dL_law_981 : decode cL_law 981 = .ok (.iload_n 3, 1) := by decide +kernel
theorem dL_law_982 : decode cL_law 982 = .ok (.iconst 2, 1) := by decide +kernel
theorem dL_law_983 : decode cL_law 983 = .ok (.iadd, 1) := by decide +kernel
theorem dL_law_984 : decode cL_law 984 = .ok (.iaload, 1) := by decide +kernel
theorem dL_law_985 : decode cL_law 985 = .ok (.invokevirtual 119, 3) := by decide +kernel
theorem dL_law_988 : decode cL_law 988 = .ok (.if_icmp .eq 440, 3) := by decide +kernel
theorem dL_law_991 : decode cL_law 991 = .ok (.iconst 0, 1) := by decide +kernel
theorem dL_law_992 : decode cL_law 992 = .ok (.ireturn, 1) := by decide +kernel
theorem dL_law_993 : decode cL_law 993 = .ok (.aload_n 1, 1) := by decide +kernel
theorem dL_law_994 : decode cL_law 994 = .ok (.aload_n 0, 1) := by decide +kernel
theorem dL_law_995 : decode cL_law 995 = .ok (.iload_n 3, 1) := by decide +kernel
theorem dL_law_996 : decode cL_law 996 = .ok (.iconst 1, 1) := by decide +kernel
theorem dL_law_997 : decode cL_law 997 = .ok (.iadd, 1) := by decide +kernel
theorem dL_law_998 : decode cL_law 998 = .ok (.iaload, 1) := by decide +kernel
theorem dL_law_999 : decode cL_law 999 = .ok (.invokevirtual 120, 3) := by decide +kernel
theorem dL_law_1002 : decode cL_law 1002 = .ok (.aload_n 2, 1) := by decide +kernel
theorem dL_law_1003 : decode cL_law 1003 = .ok (.aload_n 0, 1) := by decide +kernel
theorem dL_law_1004 : decode cL_law 1004 = .ok (.iload_n 3, 1) := by decide +kernel
theorem dL_law_1005 : decode cL_law 1005 = .ok (.iconst 1, 1) := by decide +kernel
theorem dL_law_1006 : decode cL_law 1006 = .ok (.iadd, 1) := by decide +kernel
theorem dL_law_1007 : decode cL_law 1007 = .ok (.iaload, 1) := by decide +kernel
theorem dL_law_1008 : decode cL_law 1008 = .ok (.invokevirtual 123, 3) := by decide +kernel
theorem dL_law_1011 : decode cL_law 1011 = .ok (.if_icmp .eq 417, 3) := by decide +kernel
theorem dL_law_1014 : decode cL_law 1014 = .ok (.iconst 0, 1) := by decide +kernel
theorem dL_law_1015 : decode cL_law 1015 = .ok (.ireturn, 1) := by decide +kernel
theorem dL_law_1016 : decode cL_law 1016 = .ok (.aload_n 1, 1) := by decide +kernel
theorem dL_law_1017 : decode cL_law 1017 = .ok (.aload_n 0, 1) := by decide +kernel
theorem dL_law_1018 : decode cL_law 1018 = .ok (.iload_n 3, 1) := by decide +kernel
theorem dL_law_1019 : decode cL_law 1019 = .ok (.iconst 1, 1) := by decide +kernel
theorem dL_law_1020 : decode cL_law 1020 = .ok (.iadd, 1) := by decide +kernel
theorem dL_law_1021 : decode cL_law 1021 = .ok (.iaload, 1) := by decide +kernel
theorem dL_law_1022 : decode cL_law 1022 = .ok (.aload_n 0, 1) := by decide +kernel
theorem dL_law_1023 : decode cL_law 1023 = .ok (.iload_n 3, 1) := by decide +kernel
theorem dL_law_1024 : decode cL_law 1024 = .ok (.iconst 2, 1) := by decide +kernel
theorem dL_law_1025 : decode cL_law 1025 = .ok (.iadd, 1) := by decide +kernel
theorem dL_law_1026 : decode cL_law 1026 = .ok (.iaload, 1) := by decide +kernel
theorem dL_law_1027 : decode cL_law 1027 = .ok (.aload_n 0, 1) := by decide +kernel
theorem dL_law_1028 : decode cL_law 1028 = .ok (.iload_n 3, 1) := by decide +kernel
theorem dL_law_1029 : decode cL_law 1029 = .ok (.iconst 3, 1) := by decide +kernel
theorem dL_law_1030 : decode cL_law 1030 = .ok (.iadd, 1) := by decide +kernel
theorem dL_law_1031 : decode cL_law 1031 = .ok (.iaload, 1) := by decide +kernel
theorem dL_law_1032 : decode cL_law 1032 = .ok (.invokevirtual 124, 3) := by decide +kernel
theorem dL_law_1035 : decode cL_law 1035 = .ok (.aload_n 2, 1) := by decide +kernel
theorem dL_law_1036 : decode cL_law 1036 = .ok (.aload_n 0, 1) := by decide +kernel
theorem dL_law_1037 : decode cL_law 1037 = .ok (.iload_n 3, 1) := by decide +kernel
theorem dL_law_1038 : decode cL_law 1038 = .ok (.iconst 1, 1) := by decide +kernel
theorem dL_law_1039 : decode cL_law 1039 = .ok (.iadd, 1) := by decide +kernel
theorem dL_law_1040 : decode cL_law 1040 = .ok (.iaload, 1) := by decide +kernel
theorem dL_law_1041 : decode cL_law 1041 = .ok (.aload_n 0, 1) := by decide +kernel
theorem dL_law_1042 : decode cL_law 1042 = .ok (.iload_n 3, 1) := by decide +kernel
theorem dL_law_1043 : decode cL_law 1043 = .ok (.iconst 2, 1) := by decide +kernel
theorem dL_law_1044 : decode cL_law 1044 = .ok (.iadd, 1) := by decide +kernel
theorem dL_law_1045 : decode cL_law 1045 = .ok (.iaload, 1) := by decide +kernel
theorem dL_law_1046 : decode cL_law 1046 = .ok (.aload_n 0, 1) := by decide +kernel
theorem dL_law_1047 : decode cL_law 1047 = .ok (.iload_n 3, 1) := by decide +kernel
theorem dL_law_1048 : decode cL_law 1048 = .ok (.iconst 3, 1) := by decide +kernel
theorem dL_law_1049 : decode cL_law 1049 = .ok (.iadd, 1) := by decide +kernel
theorem dL_law_1050 : decode cL_law 1050 = .ok (.iaload, 1) := by decide +kernel
theorem dL_law_1051 : decode cL_law 1051 = .ok (.invokevirtual 127, 3) := by decide +kernel
theorem dL_law_1054 : decode cL_law 1054 = .ok (.if_icmp .eq 374, 3) := by decide +kernel
theorem dL_law_1057 : decode cL_law 1057 = .ok (.iconst 0, 1) := by decide +kernel
theorem dL_law_1058 : decode cL_law 1058 = .ok (.ireturn, 1) := by decide +kernel
theorem dL_law_1059 : decode cL_law 1059 = .ok (.aload_n 1, 1) := by decide +kernel
theorem dL_law_1060 : decode cL_law 1060 = .ok (.aload_n 0, 1) := by decide +kernel
theorem dL_law_1061 : decode cL_law 1061 = .ok (.iload_n 3, 1) := by decide +kernel
theorem dL_law_1062 : decode cL_law 1062 = .ok (.iconst 1, 1) := by decide +kernel
theorem dL_law_1063 : decode cL_law 1063 = .ok (.iadd, 1) := by decide +kernel
theorem dL_law_1064 : decode cL_law 1064 = .ok (.iaload, 1) := by decide +kernel
theorem dL_law_1065 : decode cL_law 1065 = .ok (.invokevirtual 128, 3) := by decide +kernel
theorem dL_law_1068 : decode cL_law 1068 = .ok (.aload_n 2, 1) := by decide +kernel
theorem dL_law_1069 : decode cL_law 1069 = .ok (.aload_n 0, 1) := by decide +kernel
theorem dL_law_1070 : decode cL_law 1070 = .ok (.iload_n 3, 1) := by decide +kernel
theorem dL_law_1071 : decode cL_law 1071 = .ok (.iconst 1, 1) := by decide +kernel
theorem dL_law_1072 : decode cL_law 1072 = .ok (.iadd, 1) := by decide +kernel
theorem dL_law_1073 : decode cL_law 1073 = .ok (.iaload, 1) := by decide +kernel
theorem dL_law_1074 : decode cL_law 1074 = .ok (.invokevirtual 131, 3) := by decide +kernel
theorem dL_law_1077 : decode cL_law 1077 = .ok (.if_icmp .eq 351, 3) := by decide +kernel
theorem dL_law_1080 : decode cL_law 1080 = .ok (.iconst 0, 1) := by decide +kernel
theorem dL_law_1081 : decode cL_law 1081 = .ok (.ireturn, 1) := by decide +kernel
theorem dL_law_1082 : decode cL_law 1082 = .ok (.aload_n 1, 1) := by decide +kernel
theorem dL_law_1083 : decode cL_law 1083 = .ok (.aload_n 0, 1) := by decide +kernel
theorem dL_law_1084 : decode cL_law 1084 = .ok (.iload_n 3, 1) := by decide +kernel
theorem dL_law_1085 : decode cL_law 1085 = .ok (.iconst 1, 1) := by decide +kernel
theorem dL_law_1086 : decode cL_law 1086 = .ok (.iadd, 1) := by decide +kernel
theorem dL_law_1087 : decode cL_law 1087 = .ok (.iaload, 1) := by decide +kernel
theorem dL_law_1088 : decode cL_law 1088 = .ok (.aload_n 0, 1) := by decide +kernel
theorem dL_law_1089 : decode cL_law 1089 = .ok (.iload_n 3, 1) := by decide +kernel
theorem dL_law_1090 : decode cL_law 1090 = .ok (.iconst 2, 1) := by decide +kernel
theorem dL_law_1091 : decode cL_law 1091 = .ok (.iadd, 1) := by decide +kernel
theorem dL_law_1092 : decode cL_law 1092 = .ok (.iaload, 1) := by decide +kernel
theorem dL_law_1093 : decode cL_law 1093 = .ok (.aload_n 0, 1) := by decide +kernel
theorem dL_law_1094 : decode cL_law 1094 = .ok (.iload_n 3, 1) := by decide +kernel
theorem dL_law_1095 : decode cL_law 1095 = .ok (.iconst 3, 1) := by decide +kernel
theorem dL_law_1096 : decode cL_law 1096 = .ok (.iadd, 1) := by decide +kernel
theorem dL_law_1097 : decode cL_law 1097 = .ok (.iaload, 1) := by decide +kernel
theorem dL_law_1098 : decode cL_law 1098 = .ok (.invokevirtual 132, 3) := by decide +kernel
theorem dL_law_1101 : decode cL_law 1101 = .ok (.aload_n 2, 1) := by decide +kernel
theorem dL_law_1102 : decode cL_law 1102 = .ok (.aload_n 0, 1) := by decide +kernel
theorem dL_law_1103 : decode cL_law 1103 = .ok (.iload_n 3, 1) := by decide +kernel
theorem dL_law_1104 : decode cL_law 1104 = .ok (.iconst 1, 1) := by decide +kernel
theorem dL_law_1105 : decode cL_law 1105 = .ok (.iadd, 1) := by decide +kernel
theorem dL_law_1106 : decode cL_law 1106 = .ok (.iaload, 1) := by decide +kernel
theorem dL_law_1107 : decode cL_law 1107 = .ok (.aload_n 0, 1) := by decide +kernel
theorem dL_law_1108 : decode cL_law 1108 = .ok (.iload_n 3, 1) := by decide +kernel
theorem dL_law_1109 : decode cL_law 1109 = .ok (.iconst 2, 1) := by decide +kernel
theorem dL_law_1110 : decode cL_law 1110 = .ok (.iadd, 1) := by decide +kernel
theorem dL_law_1111 : decode cL_law 1111 = .ok (.iaload, 1) := by decide +kernel
theorem dL_law_1112 : decode cL_law 1112 = .ok (.aload_n 0, 1) := by decide +kernel
theorem dL_law_1113 : decode cL_law 1113 = .ok (.iload_n 3, 1) := by decide +kernel
theorem dL_law_1114 : decode cL_law 1114 = .ok (.iconst 3, 1) := by decide +kernel
theorem dL_law_1115 : decode cL_law 1115 = .ok (.iadd, 1) := by decide +kernel
theorem dL_law_1116 : decode cL_law 1116 = .ok (.iaload, 1) := by decide +kernel
theorem dL_law_1117 : decode cL_law 1117 = .ok (.invokevirtual 135, 3) := by decide +kernel
theorem dL_law_1120 : decode cL_law 1120 = .ok (.if_icmp .eq 308, 3) := by decide +kernel
theorem dL_law_1123 : decode cL_law 1123 = .ok (.iconst 0, 1) := by decide +kernel
theorem dL_law_1124 : decode cL_law 1124 = .ok (.ireturn, 1) := by decide +kernel
theorem dL_law_1125 : decode cL_law 1125 = .ok (.aload_n 1, 1) := by decide +kernel
theorem dL_law_1126 : decode cL_law 1126 = .ok (.aload_n 0, 1) := by decide +kernel
theorem dL_law_1127 : decode cL_law 1127 = .ok (.iload_n 3, 1) := by decide +kernel
theorem dL_law_1128 : decode cL_law 1128 = .ok (.iconst 1, 1) := by decide +kernel
theorem dL_law_1129 : decode cL_law 1129 = .ok (.iadd, 1) := by decide +kernel
theorem dL_law_1130 : decode cL_law 1130 = .ok (.iaload, 1) := by decide +kernel
theorem dL_law_1131 : decode cL_law 1131 = .ok (.aload_n 0, 1) := by decide +kernel
theorem dL_law_1132 : decode cL_law 1132 = .ok (.iload_n 3, 1) := by decide +kernel
theorem dL_law_1133 : decode cL_law 1133 = .ok (.iconst 2, 1) := by decide +kernel
theorem dL_law_1134 : decode cL_law 1134 = .ok (.iadd, 1) := by decide +kernel
theorem dL_law_1135 : decode cL_law 1135 = .ok (.iaload, 1) := by decide +kernel
theorem dL_law_1136 : decode cL_law 1136 = .ok (.aload_n 0, 1) := by decide +kernel
theorem dL_law_1137 : decode cL_law 1137 = .ok (.iload_n 3, 1) := by decide +kernel
theorem dL_law_1138 : decode cL_law 1138 = .ok (.iconst 3, 1) := by decide +kernel
theorem dL_law_1139 : decode cL_law 1139 = .ok (.iadd, 1) := by decide +kernel
theorem dL_law_1140 : decode cL_law 1140 = .ok (.iaload, 1) := by decide +kernel
theorem dL_law_1141 : decode cL_law 1141 = .ok (.invokevirtual 136, 3) := by decide +kernel
theorem dL_law_1144 : decode cL_law 1144 = .ok (.aload_n 2, 1) := by decide +kernel
theorem dL_law_1145 : decode cL_law 1145 = .ok (.aload_n 0, 1) := by decide +kernel
theorem dL_law_1146 : decode cL_law 1146 = .ok (.iload_n 3, 1) := by decide +kernel
theorem dL_law_1147 : decode cL_law 1147 = .ok (.iconst 1, 1) := by decide +kernel
theorem dL_law_1148 : decode cL_law 1148 = .ok (.iadd, 1) := by decide +kernel
theorem dL_law_1149 : decode cL_law 1149 = .ok (.iaload, 1) := by decide +kernel
theorem dL_law_1150 : decode cL_law 1150 = .ok (.aload_n 0, 1) := by decide +kernel
theorem dL_law_1151 : decode cL_law 1151 = .ok (.iload_n 3, 1) := by decide +kernel
theorem dL_law_1152 : decode cL_law 1152 = .ok (.iconst 2, 1) := by decide +kernel
theorem dL_law_1153 : decode cL_law 1153 = .ok (.iadd, 1) := by decide +kernel
theorem dL_law_1154 : decode cL_law 1154 = .ok (.iaload, 1) := by decide +kernel
theorem dL_law_1155 : decode cL_law 1155 = .ok (.aload_n 0, 1) := by decide +kernel
theorem dL_law_1156 : decode cL_law 1156 = .ok (.iload_n 3, 1) := by decide +kernel
theorem dL_law_1157 : decode cL_law 1157 = .ok (.iconst 3, 1) := by decide +kernel
theorem dL_law_1158 : decode cL_law 1158 = .ok (.iadd, 1) := by decide +kernel
theorem dL_law_1159 : decode cL_law 1159 = .ok (.iaload, 1) := by decide +kernel
theorem dL_law_1160 : decode cL_law 1160 = .ok (.invokevirtual 139, 3) := by decide +kernel
theorem dL_law_1163 : decode cL_law 1163 = .ok (.if_icmp .eq 265, 3) := by decide +kernel
theorem dL_law_1166 : decode cL_law 1166 = .ok (.iconst 0, 1) := by decide +kernel
theorem dL_law_1167 : decode cL_law 1167 = .ok (.ireturn, 1) := by decide +kernel
theorem dL_law_1168 : decode cL_law 1168 = .ok (.aload_n 1, 1) := by decide +kernel
theorem dL_law_1169 : decode cL_law 1169 = .ok (.aload_n 0, 1) := by decide +kernel
theorem dL_law_1170 : decode cL_law 1170 = .ok (.iload_n 3, 1) := by decide +kernel
theorem dL_law_1171 : decode cL_law 1171 = .ok (.iconst 1, 1) := by decide +kernel
theorem dL_law_1172 : decode cL_law 1172 = .ok (.iadd, 1) := by decide +kernel
theorem dL_law_1173 : decode cL_law 1173 = .ok (.iaload, 1) := by decide +kernel
theorem dL_law_1174 : decode cL_law 1174 = .ok (.aload_n 0, 1) := by decide +kernel
theorem dL_law_1175 : decode cL_law 1175 = .ok (.iload_n 3, 1) := by decide +kernel
theorem dL_law_1176 : decode cL_law 1176 = .ok (.iconst 2, 1) := by decide +kernel
theorem dL_law_1177 : decode cL_law 1177 = .ok (.iadd, 1) := by decide +kernel
theorem dL_law_1178 : decode cL_law 1178 = .ok (.iaload, 1) := by decide +kernel
theorem dL_law_1179 : decode cL_law 1179 = .ok (.aload_n 0, 1) := by decide +kernel
theorem dL_law_1180 : decode cL_law 1180 = .ok (.iload_n 3, 1) := by decide +kernel
theorem dL_law_1181 : decode cL_law 1181 = .ok (.iconst 3, 1) := by decide +kernel
theorem dL_law_1182 : decode cL_law 1182 = .ok (.iadd, 1) := by decide +kernel
theorem dL_law_1183 : decode cL_law 1183 = .ok (.iaload, 1) := by decide +kernel
theorem dL_law_1184 : decode cL_law 1184 = .ok (.aload_n 0, 1) := by decide +kernel
theorem dL_law_1185 : decode cL_law 1185 = .ok (.iload_n 3, 1) := by decide +kernel
theorem dL_law_1186 : decode cL_law 1186 = .ok (.iconst 4, 1) := by decide +kernel
theorem dL_law_1187 : decode cL_law 1187 = .ok (.iadd, 1) := by decide +kernel
theorem dL_law_1188 : decode cL_law 1188 = .ok (.iaload, 1) := by decide +kernel
theorem dL_law_1189 : decode cL_law 1189 = .ok (.aload_n 0, 1) := by decide +kernel
theorem dL_law_1190 : decode cL_law 1190 = .ok (.iload_n 3, 1) := by decide +kernel
theorem dL_law_1191 : decode cL_law 1191 = .ok (.iconst 5, 1) := by decide +kernel
theorem dL_law_1192 : decode cL_law 1192 = .ok (.iadd, 1) := by decide +kernel
theorem dL_law_1193 : decode cL_law 1193 = .ok (.iaload, 1) := by decide +kernel
theorem dL_law_1194 : decode cL_law 1194 = .ok (.invokevirtual 140, 3) := by decide +kernel
theorem dL_law_1197 : decode cL_law 1197 = .ok (.aload_n 2, 1) := by decide +kernel
theorem dL_law_1198 : decode cL_law 1198 = .ok (.aload_n 0, 1) := by decide +kernel
theorem dL_law_1199 : decode cL_law 1199 = .ok (.iload_n 3, 1) := by decide +kernel
theorem dL_law_1200 : decode cL_law 1200 = .ok (.iconst 1, 1) := by decide +kernel
theorem dL_law_1201 : decode cL_law 1201 = .ok (.iadd, 1) := by decide +kernel
theorem dL_law_1202 : decode cL_law 1202 = .ok (.iaload, 1) := by decide +kernel
theorem dL_law_1203 : decode cL_law 1203 = .ok (.aload_n 0, 1) := by decide +kernel
theorem dL_law_1204 : decode cL_law 1204 = .ok (.iload_n 3, 1) := by decide +kernel
theorem dL_law_1205 : decode cL_law 1205 = .ok (.iconst 2, 1) := by decide +kernel
theorem dL_law_1206 : decode cL_law 1206 = .ok (.iadd, 1) := by decide +kernel
theorem dL_law_1207 : decode cL_law 1207 = .ok (.iaload, 1) := by decide +kernel
theorem dL_law_1208 : decode cL_law 1208 = .ok (.aload_n 0, 1) := by decide +kernel
theorem dL_law_1209 : decode cL_law 1209 = .ok (.iload_n 3, 1) := by decide +kernel
theorem dL_law_1210 : decode cL_law 1210 = .ok (.iconst 3, 1) := by decide +kernel
theorem dL_law_1211 : decode cL_law 1211 = .ok (.iadd, 1) := by decide +kernel
theorem dL_law_1212 : decode cL_law 1212 = .ok (.iaload, 1) := by decide +kernel
theorem dL_law_1213 : decode cL_law 1213 = .ok (.aload_n 0, 1) := by decide +kernel
theorem dL_law_1214 : decode cL_law 1214 = .ok (.iload_n 3, 1) := by decide +kernel
theorem dL_law_1215 : decode cL_law 1215 = .ok (.iconst 4, 1) := by decide +kernel
theorem dL_law_1216 : decode cL_law 1216 = .ok (.iadd, 1) := by decide +kernel
theorem dL_law_1217 : decode cL_law 1217 = .ok (.iaload, 1) := by decide +kernel
theorem dL_law_1218 : decode cL_law 1218 = .ok (.aload_n 0, 1) := by decide +kernel
theorem dL_law_1219 : decode cL_law 1219 = .ok (.iload_n 3, 1) := by decide +kernel
theorem dL_law_1220 : decode cL_law 1220 = .ok (.iconst 5, 1) := by decide +kernel
theorem dL_law_1221 : decode cL_law 1221 = .ok (.iadd, 1) := by decide +kernel
theorem dL_law_1222 : decode cL_law 1222 = .ok (.iaload, 1) := by decide +kernel
theorem dL_law_1223 : decode cL_law 1223 = .ok (.invokevirtual 144, 3) := by decide +kernel
theorem dL_law_1226 : decode cL_law 1226 = .ok (.if_icmp .eq 202, 3) := by decide +kernel
theorem dL_law_1229 : decode cL_law 1229 = .ok (.iconst 0, 1) := by decide +kernel
theorem dL_law_1230 : decode cL_law 1230 = .ok (.ireturn, 1) := by decide +kernel
theorem dL_law_1231 : decode cL_law 1231 = .ok (.aload_n 1, 1) := by decide +kernel
theorem dL_law_1232 : decode cL_law 1232 = .ok (.aload_n 0, 1) := by decide +kernel
theorem dL_law_1233 : decode cL_law 1233 = .ok (.iload_n 3, 1) := by decide +kernel
theorem dL_law_1234 : decode cL_law 1234 = .ok (.iconst 1, 1) := by decide +kernel
theorem dL_law_1235 : decode cL_law 1235 = .ok (.iadd, 1) := by decide +kernel
theorem dL_law_1236 : decode cL_law 1236 = .ok (.iaload, 1) := by decide +kernel
theorem dL_law_1237 : decode cL_law 1237 = .ok (.invokevirtual 145, 3) := by decide +kernel
theorem dL_law_1240 : decode cL_law 1240 = .ok (.aload_n 2, 1) := by decide +kernel
theorem dL_law_1241 : decode cL_law 1241 = .ok (.aload_n 0, 1) := by decide +kernel
theorem dL_law_1242 : decode cL_law 1242 = .ok (.iload_n 3, 1) := by decide +kernel
theorem dL_law_1243 : decode cL_law 1243 = .ok (.iconst 1, 1) := by decide +kernel
theorem dL_law_1244 : decode cL_law 1244 = .ok (.iadd, 1) := by decide +kernel
theorem dL_law_1245 : decode cL_law 1245 = .ok (.iaload, 1) := by decide +kernel
theorem dL_law_1246 : decode cL_law 1246 = .ok (.invokevirtual 148, 3) := by decide +kernel
theorem dL_law_1249 : decode cL_law 1249 = .ok (.if_icmp .eq 179, 3) := by decide +kernel
theorem dL_law_1252 : decode cL_law 1252 = .ok (.iconst 0, 1) := by decide +kernel
theorem dL_law_1253 : decode cL_law 1253 = .ok (.ireturn, 1) := by decide +kernel
theorem dL_law_1254 : decode cL_law 1254 = .ok (.aload_n 1, 1) := by decide +kernel
theorem dL_law_1255 : decode cL_law 1255 = .ok (.aload_n 0, 1) := by decide +kernel
theorem dL_law_1256 : decode cL_law 1256 = .ok (.iload_n 3, 1) := by decide +kernel
theorem dL_law_1257 : decode cL_law 1257 = .ok (.iconst 1, 1) := by decide +kernel
theorem dL_law_1258 : decode cL_law 1258 = .ok (.iadd, 1) := by decide +kernel
theorem dL_law_1259 : decode cL_law 1259 = .ok (.iaload, 1) := by decide +kernel
theorem dL_law_1260 : decode cL_law 1260 = .ok (.invokevirtual 149, 3) := by decide +kernel
theorem dL_law_1263 : decode cL_law 1263 = .ok (.aload_n 2, 1) := by decide +kernel
theorem dL_law_1264 : decode cL_law 1264 = .ok (.aload_n 0, 1) := by decide +kernel
theorem dL_law_1265 : decode cL_law 1265 = .ok (.iload_n 3, 1) := by decide +kernel
theorem dL_law_1266 : decode cL_law 1266 = .ok (.iconst 1, 1) := by decide +kernel
theorem dL_law_1267 : decode cL_law 1267 = .ok (.iadd, 1) := by decide +kernel
theorem dL_law_1268 : decode cL_law 1268 = .ok (.iaload, 1) := by decide +kernel
theorem dL_law_1269 : decode cL_law 1269 = .ok (.invokevirtual 152, 3) := by decide +kernel
theorem dL_law_1272 : decode cL_law 1272 = .ok (.if_icmp .eq 156, 3) := by decide +kernel
theorem dL_law_1275 : decode cL_law 1275 = .ok (.iconst 0, 1) := by decide +kernel
theorem dL_law_1276 : decode cL_law 1276 = .ok (.ireturn, 1) := by decide +kernel
theorem dL_law_1277 : decode cL_law 1277 = .ok (.aload_n 1, 1) := by decide +kernel
theorem dL_law_1278 : decode cL_law 1278 = .ok (.aload_n 0, 1) := by decide +kernel
theorem dL_law_1279 : decode cL_law 1279 = .ok (.iload_n 3, 1) := by decide +kernel
theorem dL_law_1280 : decode cL_law 1280 = .ok (.iconst 1, 1) := by decide +kernel
theorem dL_law_1281 : decode cL_law 1281 = .ok (.iadd, 1) := by decide +kernel
theorem dL_law_1282 : decode cL_law 1282 = .ok (.iaload, 1) := by decide +kernel
theorem dL_law_1283 : decode cL_law 1283 = .ok (.aload_n 0, 1) := by decide +kernel
theorem dL_law_1284 : decode cL_law 1284 = .ok (.iload_n 3, 1) := by decide +kernel
theorem dL_law_1285 : decode cL_law 1285 = .ok (.iconst 2, 1) := by decide +kernel
theorem dL_law_1286 : decode cL_law 1286 = .ok (.iadd, 1) := by decide +kernel
theorem dL_law_1287 : decode cL_law 1287 = .ok (.iaload, 1) := by decide +kernel
theorem dL_law_1288 : decode cL_law 1288 = .ok (.aload_n 0, 1) := by decide +kernel
theorem dL_law_1289 : decode cL_law 1289 = .ok (.iload_n 3, 1) := by decide +kernel
theorem dL_law_1290 : decode cL_law 1290 = .ok (.iconst 3, 1) := by decide +kernel
theorem dL_law_1291 : decode cL_law 1291 = .ok (.iadd, 1) := by decide +kernel
theorem dL_law_1292 : decode cL_law 1292 = .ok (.iaload, 1) := by decide +kernel
theorem dL_law_1293 : decode cL_law 1293 = .ok (.invokevirtual 153, 3) := by decide +kernel
theorem dL_law_1296 : decode cL_law 1296 = .ok (.aload_n 2, 1) := by decide +kernel
theorem dL_law_1297 : decode cL_law 1297 = .ok (.aload_n 0, 1) := by decide +kernel
theorem dL_law_1298 : decode cL_law 1298 = .ok (.iload_n 3, 1) := by decide +kernel
theorem dL_law_1299 : decode cL_law 1299 = .ok (.iconst 1, 1) := by decide +kernel
theorem dL_law_1300 : decode cL_law 1300 = .ok (.iadd, 1) := by decide +kernel
theorem dL_law_1301 : decode cL_law 1301 = .ok (.iaload, 1) := by decide +kernel
theorem dL_law_1302 : decode cL_law 1302 = .ok (.aload_n 0, 1) := by decide +kernel
theorem dL_law_1303 : decode cL_law 1303 = .ok (.iload_n 3, 1) := by decide +kernel
theorem dL_law_1304 : decode cL_law 1304 = .ok (.iconst 2, 1) := by decide +kernel
theorem dL_law_1305 : decode cL_law 1305 = .ok (.iadd, 1) := by decide +kernel
theorem dL_law_1306 : decode cL_law 1306 = .ok (.iaload, 1) := by decide +kernel
theorem dL_law_1307 : decode cL_law 1307 = .ok (.aload_n 0, 1) := by decide +kernel
theorem dL_law_1308 : decode cL_law 1308 = .ok (.iload_n 3, 1) := by decide +kernel
theorem dL_law_1309 : decode cL_law 1309 = .ok (.iconst 3, 1) := by decide +kernel
theorem dL_law_1310 : decode cL_law 1310 = .ok (.iadd, 1) := by decide +kernel
theorem dL_law_1311 : decode cL_law 1311 = .ok (.iaload, 1) := by decide +kernel
theorem dL_law_1312 : decode cL_law 1312 = .ok (.invokevirtual 156, 3) := by decide +kernel
theorem dL_law_1315 : decode cL_law 1315 = .ok (.if_icmp .eq 113, 3) := by decide +kernel
theorem dL_law_1318 : decode cL_law 1318 = .ok (.iconst 0, 1) := by decide +kernel
theorem dL_law_1319 : decode cL_law 1319 = .ok (.ireturn, 1) := by decide +kernel
theorem dL_law_1320 : decode cL_law 1320 = .ok (.aload_n 1, 1) := by decide +kernel
theorem dL_law_1321 : decode cL_law 1321 = .ok (.invokevirtual 157, 3) := by decide +kernel
theorem dL_law_1324 : decode cL_law 1324 = .ok (.aload_n 2, 1) := by decide +kernel
theorem dL_law_1325 : decode cL_law 1325 = .ok (.invokevirtual 160, 3) := by decide +kernel
theorem dL_law_1328 : decode cL_law 1328 = .ok (.if_icmp .eq 100, 3) := by decide +kernel
theorem dL_law_1331 : decode cL_law 1331 = .ok (.iconst 0, 1) := by decide +kernel
theorem dL_law_1332 : decode cL_law 1332 = .ok (.ireturn, 1) := by decide +kernel
theorem dL_law_1333 : decode cL_law 1333 = .ok (.aload_n 1, 1) := by decide +kernel
theorem dL_law_1334 : decode cL_law 1334 = .ok (.invokevirtual 161, 3) := by decide +kernel
theorem dL_law_1337 : decode cL_law 1337 = .ok (.aload_n 2, 1) := by decide +kernel
theorem dL_law_1338 : decode cL_law 1338 = .ok (.invokevirtual 164, 3) := by decide +kernel
theorem dL_law_1341 : decode cL_law 1341 = .ok (.if_icmp .eq 87, 3) := by decide +kernel
theorem dL_law_1344 : decode cL_law 1344 = .ok (.iconst 0, 1) := by decide +kernel
theorem dL_law_1345 : decode cL_law 1345 = .ok (.ireturn, 1) := by decide +kernel
theorem dL_law_1346 : decode cL_law 1346 = .ok (.aload_n 1, 1) := by decide +kernel
theorem dL_law_1347 : decode cL_law 1347 = .ok (.aload_n 0, 1) := by decide +kernel
theorem dL_law_1348 : decode cL_law 1348 = .ok (.iload_n 3, 1) := by decide +kernel
theorem dL_law_1349 : decode cL_law 1349 = .ok (.iconst 1, 1) := by decide +kernel
theorem dL_law_1350 : decode cL_law 1350 = .ok (.iadd, 1) := by decide +kernel
theorem dL_law_1351 : decode cL_law 1351 = .ok (.iaload, 1) := by decide +kernel
theorem dL_law_1352 : decode cL_law 1352 = .ok (.invokevirtual 165, 3) := by decide +kernel
theorem dL_law_1355 : decode cL_law 1355 = .ok (.aload_n 2, 1) := by decide +kernel
theorem dL_law_1356 : decode cL_law 1356 = .ok (.aload_n 0, 1) := by decide +kernel
theorem dL_law_1357 : decode cL_law 1357 = .ok (.iload_n 3, 1) := by decide +kernel
theorem dL_law_1358 : decode cL_law 1358 = .ok (.iconst 1, 1) := by decide +kernel
theorem dL_law_1359 : decode cL_law 1359 = .ok (.iadd, 1) := by decide +kernel
theorem dL_law_1360 : decode cL_law 1360 = .ok (.iaload, 1) := by decide +kernel
theorem dL_law_1361 : decode cL_law 1361 = .ok (.invokevirtual 168, 3) := by decide +kernel
theorem dL_law_1364 : decode cL_law 1364 = .ok (.if_icmp .eq 64, 3) := by decide +kernel
theorem dL_law_1367 : decode cL_law 1367 = .ok (.iconst 0, 1) := by decide +kernel
theorem dL_law_1368 : decode cL_law 1368 = .ok (.ireturn, 1) := by decide +kernel
theorem dL_law_1369 : decode cL_law 1369 = .ok (.aload_n 1, 1) := by decide +kernel
theorem dL_law_1370 : decode cL_law 1370 = .ok (.invokevirtual 169, 3) := by decide +kernel
theorem dL_law_1373 : decode cL_law 1373 = .ok (.aload_n 2, 1) := by decide +kernel
theorem dL_law_1374 : decode cL_law 1374 = .ok (.invokevirtual 172, 3) := by decide +kernel
theorem dL_law_1377 : decode cL_law 1377 = .ok (.if_icmp .eq 51, 3) := by decide +kernel
theorem dL_law_1380 : decode cL_law 1380 = .ok (.iconst 0, 1) := by decide +kernel
theorem dL_law_1381 : decode cL_law 1381 = .ok (.ireturn, 1) := by decide +kernel
theorem dL_law_1382 : decode cL_law 1382 = .ok (.aload_n 1, 1) := by decide +kernel
theorem dL_law_1383 : decode cL_law 1383 = .ok (.aload_n 0, 1) := by decide +kernel
theorem dL_law_1384 : decode cL_law 1384 = .ok (.iload_n 3, 1) := by decide +kernel
theorem dL_law_1385 : decode cL_law 1385 = .ok (.iconst 1, 1) := by decide +kernel
theorem dL_law_1386 : decode cL_law 1386 = .ok (.iadd, 1) := by decide +kernel
theorem dL_law_1387 : decode cL_law 1387 = .ok (.iaload, 1) := by decide +kernel
theorem dL_law_1388 : decode cL_law 1388 = .ok (.invokevirtual 173, 3) := by decide +kernel
theorem dL_law_1391 : decode cL_law 1391 = .ok (.aload_n 2, 1) := by decide +kernel
theorem dL_law_1392 : decode cL_law 1392 = .ok (.aload_n 0, 1) := by decide +kernel
theorem dL_law_1393 : decode cL_law 1393 = .ok (.iload_n 3, 1) := by decide +kernel
theorem dL_law_1394 : decode cL_law 1394 = .ok (.iconst 1, 1) := by decide +kernel
theorem dL_law_1395 : decode cL_law 1395 = .ok (.iadd, 1) := by decide +kernel
theorem dL_law_1396 : decode cL_law 1396 = .ok (.iaload, 1) := by decide +kernel
theorem dL_law_1397 : decode cL_law 1397 = .ok (.invokevirtual 176, 3) := by decide +kernel
theorem dL_law_1400 : decode cL_law 1400 = .ok (.if_icmp .eq 28, 3) := by decide +kernel
theorem dL_law_1403 : decode cL_law 1403 = .ok (.iconst 0, 1) := by decide +kernel
theorem dL_law_1404 : decode cL_law 1404 = .ok (.ireturn, 1) := by decide +kernel
theorem dL_law_1405 : decode cL_law 1405 = .ok (.aload_n 1, 1) := by decide +kernel
theorem dL_law_1406 : decode cL_law 1406 = .ok (.aload_n 0, 1) := by decide +kernel
theorem dL_law_1407 : decode cL_law 1407 = .ok (.iload_n 3, 1) := by decide +kernel
theorem dL_law_1408 : decode cL_law 1408 = .ok (.iconst 1, 1) := by decide +kernel
theorem dL_law_1409 : decode cL_law 1409 = .ok (.iadd, 1) := by decide +kernel
theorem dL_law_1410 : decode cL_law 1410 = .ok (.iaload, 1) := by decide +kernel
theorem dL_law_1411 : decode cL_law 1411 = .ok (.invokevirtual 177, 3) := by decide +kernel
theorem dL_law_1414 : decode cL_law 1414 = .ok (.aload_n 2, 1) := by decide +kernel
theorem dL_law_1415 : decode cL_law 1415 = .ok (.aload_n 0, 1) := by decide +kernel
theorem dL_law_1416 : decode cL_law 1416 = .ok (.iload_n 3, 1) := by decide +kernel
theorem dL_law_1417 : decode cL_law 1417 = .ok (.iconst 1, 1) := by decide +kernel
theorem dL_law_1418 : decode cL_law 1418 = .ok (.iadd, 1) := by decide +kernel
theorem dL_law_1419 : decode cL_law 1419 = .ok (.iaload, 1) := by decide +kernel
theorem dL_law_1420 : decode cL_law 1420 = .ok (.invokevirtual 180, 3) := by decide +kernel
theorem dL_law_1423 : decode cL_law 1423 = .ok (.if_icmp .eq 5, 3) := by decide +kernel
theorem dL_law_1426 : decode cL_law 1426 = .ok (.iconst 0, 1) := by decide +kernel
theorem dL_law_1427 : decode cL_law 1427 = .ok (.ireturn, 1) := by decide +kernel
theorem dL_law_1428 : decode cL_law 1428 = .ok (.iinc 3 6, 3) := by decide +kernel
theorem dL_law_1431 : decode cL_law 1431 = .ok (.goto (-1413), 3) := by decide +kernel
theorem dL_law_1434 : decode cL_law 1434 = .ok (.iconst 1, 1) := by decide +kernel
theorem dL_law_1435 : decode cL_law 1435 = .ok (.ireturn, 1) := by decide +kernel
end
section
/-! BASE 1: one flat memory for all cells that the claim's objects have, and the world list that it stands for -/
abbrev Mem : Type := Nat → Nat → Int32
def mset (μ : Mem) (l i : Nat) (v : Int32) : Mem := fun a b => if a = l ∧ b = i then v else μ a b
def gd {α : Type} (b : Bool) (x : Option α) : Option α := match b with
  | true => x
  | false => none
def inb (i : Int32) (n : Nat) : Bool := decide (¬ (i < 0 ∨ n ≤ i.toNatClampNeg))
def isb (b : Int32) : Bool := decide (b = 0 ∨ b = 1)
theorem inb_vp {i : Int32} {n : Nat} (h : inb i n = true) : vp_in i n := show ¬ (i < 0 ∨ n ≤ i.toNatClampNeg) from of_decide_eq_true h
theorem gd_some {α : Type} {b : Bool} {x : Option α} {y : α} (h : gd b x = some y) : b = true ∧ x = some y := by
  cases b with
  | true => exact ⟨rfl, h⟩
  | false => cases h
/-- the words that every method has: those that stay as the machine warms -/
def gtbl : List Cond := lw_tbl.filter goodWord
theorem gm {w : Cond} (i : Nat) (h : tables_1[i]? = some w) (hg : goodWord w = true) : w ∈ gtbl := List.mem_filter.mpr ⟨List.mem_append_right _ (List.mem_of_getElem? h), hg⟩
theorem gs {y : MethodName} {n : Nat} (i : Nat) (h : lw_privs[i]? = some (y, n)) : Cond.selects y.cls y y ∈ gtbl := by
  refine List.mem_filter.mpr ⟨List.mem_append_left _ ?_, rfl⟩
  exact List.mem_map.mpr ⟨(y, n), List.mem_of_getElem? h, rfl⟩
theorem gps {ws : List Cond} (ps : List Nat) (h : ws = ps.filterMap (fun i => tables_1[i]?)) (hg : ws.all goodWord = true) : ∀ w ∈ ws, w ∈ gtbl := by
  intro w hw
  have h1 := List.all_eq_true.mp hg w hw
  rw [h] at hw
  obtain ⟨i, -, hi⟩ := List.mem_filterMap.mp hw
  exact gm i hi h1
theorem g_goodIn {w : Cond} (hw : w ∈ gtbl) : GoodIn gtbl (w :: gtbl) := by
  intro v hv
  have hm : v ∈ gtbl := by
    rcases List.mem_cons.mp hv with h | h
    · rw [h]; exact hw
    · exact h
  exact ⟨hm, good_of_word (List.mem_filter.mp hm).2⟩
-- the cells: a number each; their kinds: below 10 the class, 10 to 13 arrays of objects, 100 + n an array of n ints
def tw : List Nat := [7, 106, 10, 11, 12, 160, 124, 5, 106, 106, 5, 106, 106, 5, 106, 106, 5, 106, 106, 5, 106, 106, 5, 106, 106, 0, 0, 0, 0, 0, 0, 0, 0, 0, 0, 1, 160, 160, 1, 160, 160]
def tgl : List Nat := [8, 107, 13, 4, 124, 4, 124, 4, 124, 4, 124, 2, 160, 160, 6, 130, 3, 106, 460] ++ tw ++ tw ++ tw ++ [9, 616, 616, 616, 107, 224, 228, 164, 130, 104, 104, 196, 124]
def NL : Nat := 155
def tg (l : Nat) : Nat := tgl.getD l 99
theorem tgl_len : tgl.length = 155 := by decide +kernel
theorem tg_lt {l : Nat} (h : tg l ≠ 99) : l < NL := by
  rcases Nat.lt_or_ge l NL with q | q
  · exact q
  · exact absurd (show tg l = 99 by unfold tg; rw [List.getD_eq_getElem?_getD, List.getElem?_eq_none (by rw [tgl_len]; exact q)]; rfl) h
abbrev cls10 : List vw_C := [(RX0, TX0, 4), (RX1, TX1, 3), (RX2, TX2, 9), (RX3, TX3, 7), (RX4, TX4, 3), (RX5, TX5, 6), (RX6, TX6, 6), (RX7, TX7, 15), (RX8, TX8, 9), (RX9, TX9, 20)]
/-- a field's kind: 0 a number, 1 a text, n + 2 the cell that lies n behind its object -/
def fkl : List (List Nat) := [[0, 0, 0, 0], [3, 0, 4], [3, 0, 4, 0, 0, 0, 0, 0, 1], [0, 0, 0, 0, 0, 3, 4], [0, 0, 3], [0, 0, 0, 3, 4, 0], [3, 0, 0, 0, 0, 0], [3, 0, 0, 4, 0, 5, 0, 0, 0, 0, 6, 7, 0, 8, 0], [21, 62, 103, 4, 13, 16, 18, 3, 0], [3, 4, 5, 0, 6, 0, 0, 0, 0, 7, 8, 9, 10, 0, 0, 0, 11, 12, 13, 14]]
def fk (ci k : Nat) : Nat := (fkl.getD ci []).getD k 0
def nf (ci : Nat) : Nat := (fkl.getD ci []).length
def an (t : Nat) : Nat := [6, 10, 2, 4].getD (t - 10) 0
def aa (t : Nat) : Nat := [5, 22, 31, 1].getD (t - 10) 0
def ab (t : Nat) : Nat := [3, 1, 3, 2].getD (t - 10) 0
abbrev OT : Type := Launch × (Nat → Nat) × (Nat → Nat) × (Nat → ClassId) × va_G
abbrev oF (Ω : OT) : Nat → Nat := Ω.2.1
abbrev oS (Ω : OT) : Nat → Nat := Ω.2.2.1
abbrev oC (Ω : OT) : Nat → ClassId := Ω.2.2.2.1
abbrev oD (Ω : OT) : va_G := Ω.2.2.2.2
def fv (Ω : OT) (ci l : Nat) (μ : Mem) (k : Nat) : Value := match fk ci k with
  | 0 => .int (μ l k)
  | 1 => .ref (oS Ω (if μ l k = 0 then 2 else 3))
  | n + 2 => .ref (oF Ω (l + n))
def ent (Ω : OT) (μ : Mem) (l : Nat) : va_E :=
  if tg l < 10 then .inr (tg l, (List.range (nf (tg l))).map (fv Ω (tg l) l μ))
  else if tg l < 100 then .inl (oC Ω (tg l - 9), an (tg l), .inr (.inr (.inr (.inr (fun i => some (oF Ω (l + aa (tg l) + ab (tg l) * i)))))))
  else .inl (oC Ω 0, tg l - 100, .inl (fun i => μ l i))
def wl (Ω : OT) (μ : Mem) : va_W := (List.range NL).map (fun l => (oF Ω l, ent Ω μ l))
def tys (Ω : OT) : List (ClassId × FieldType) := [(oC Ω 0, .int), (oC Ω 1, .object "LeftLacks$Shop"), (oC Ω 2, .object "LeftLacks$Customer"), (oC Ω 3, .object "LeftLacks$Formula"), (oC Ω 4, .object "LeftLacks$Sheet")]
def AA (Ω : OT) : Nat → Prop := fun q => ∃ l, l < NL ∧ oF Ω l = q
def PHI (Ω : OT) : Prop := ∀ i j, i < NL → j < NL → oF Ω i = oF Ω j → i = j
theorem wl_get (Ω : OT) (μ : Mem) {l : Nat} (h : l < NL) : (wl Ω μ)[l]? = some (oF Ω l, ent Ω μ l) := by
  unfold wl
  rw [List.getElem?_map, List.getElem?_range h]
  rfl
theorem wl_some {Ω : OT} {μ : Mem} {k : Nat} {q : Nat × va_E} (h : (wl Ω μ)[k]? = some q) : k < NL ∧ q = (oF Ω k, ent Ω μ k) := by
  have h1 := (List.getElem?_eq_some_iff.mp h).1
  have h2 : k < NL := by simpa [wl] using h1
  refine ⟨h2, ?_⟩
  rw [wl_get Ω μ h2] at h
  exact (Option.some.inj h).symm
theorem wl_D {Ω : OT} (h : PHI Ω) (μ : Mem) : va_D (AA Ω) (wl Ω μ) := by
  refine ⟨fun i j p q hi hj he => ?_, fun k q hk => ?_⟩
  · obtain ⟨a1, a2⟩ := wl_some hi
    obtain ⟨b1, b2⟩ := wl_some hj
    subst a2; subst b2
    exact h i j a1 b1 he
  · obtain ⟨a1, a2⟩ := wl_some hk
    subst a2
    exact ⟨k, a1, rfl⟩
theorem fv_congr {Ω : OT} {ci l : Nat} {μ μ' : Mem} {k : Nat} (h : μ l k = μ' l k) : fv Ω ci l μ k = fv Ω ci l μ' k := by
  unfold fv
  rw [h]
theorem ent_congr {Ω : OT} {μ μ' : Mem} {l : Nat} (h : ∀ i, μ l i = μ' l i) : ent Ω μ l = ent Ω μ' l := by
  unfold ent
  have e1 : (fun i => μ l i) = (fun i => μ' l i) := funext h
  have e2 : fv Ω (tg l) l μ = fv Ω (tg l) l μ' := funext fun k => fv_congr (h k)
  rw [e1, e2]
theorem wl_set {Ω : OT} {μ μ' : Mem} {l : Nat} {e : va_E} (hl : l < NL) (h1 : ∀ k, k ≠ l → ∀ i, μ' k i = μ k i) (h2 : ent Ω μ' l = e) : (wl Ω μ).set l (oF Ω l, e) = wl Ω μ' := by
  apply List.ext_getElem?
  intro k
  by_cases hk : k = l
  · subst hk
    rw [List.getElem?_set_self (by simpa [wl] using hl), wl_get Ω μ' hl, h2]
  · rw [List.getElem?_set_ne (fun e => hk e.symm)]
    by_cases hk2 : k < NL
    · rw [wl_get Ω μ hk2, wl_get Ω μ' hk2, ent_congr (fun i => h1 k hk i)]
    · have a1 : (wl Ω μ)[k]? = none := List.getElem?_eq_none (by simpa [wl] using Nat.not_lt.mp hk2)
      have a2 : (wl Ω μ')[k]? = none := List.getElem?_eq_none (by simpa [wl] using Nat.not_lt.mp hk2)
      rw [a1, a2]
theorem ent_obj (Ω : OT) (μ : Mem) {l ci : Nat} (h : tg l = ci) (hc : ci < 10) : ent Ω μ l = .inr (ci, (List.range (nf ci)).map (fv Ω ci l μ)) := by
  unfold ent
  rw [h, if_pos hc]
theorem ent_int (Ω : OT) (μ : Mem) {l n : Nat} (h : tg l = 100 + n) : ent Ω μ l = .inl (oC Ω 0, n, .inl (fun i => μ l i)) := by
  unfold ent
  rw [h, if_neg (by omega), if_neg (by omega), Nat.add_sub_cancel_left]
theorem ent_ref (Ω : OT) (μ : Mem) {l t : Nat} (h : tg l = t) (h1 : 10 ≤ t) (h2 : t < 100) : ent Ω μ l = .inl (oC Ω (t - 9), an t, .inr (.inr (.inr (.inr (fun i => some (oF Ω (l + aa t + ab t * i))))))) := by
  unfold ent
  rw [h, if_neg (by omega), if_pos h2]
theorem tg_ltO {l ci : Nat} (h : tg l = ci) (hc : ci < 99) : l < NL := tg_lt (by rw [h]; omega)
theorem tg_ltI {l n : Nat} (h : tg l = 100 + n) : l < NL := tg_lt (by rw [h]; omega)
theorem wl_seti {Ω : OT} {μ : Mem} {l n : Nat} (h : tg l = 100 + n) (i : Nat) (v : Int32) : (wl Ω μ).set l (oF Ω l, .inl (oC Ω 0, n, .inl (upd (fun j => μ l j) i v))) = wl Ω (mset μ l i v) := by
  refine wl_set (tg_ltI h) (fun k hk j => if_neg (fun q => hk q.1)) ?_
  rw [ent_int Ω _ h]
  congr 4
  funext j
  unfold mset upd
  by_cases hj : j = i
  · rw [if_pos ⟨rfl, hj⟩, if_pos hj]
  · rw [if_neg (fun q => hj q.2), if_neg hj]
theorem map_set_range {N k : Nat} {f f' : Nat → Value} {v : Value} (h1 : ∀ j, j ≠ k → f' j = f j) (h2 : f' k = v) : ((List.range N).map f).set k v = (List.range N).map f' := by
  apply List.ext_getElem?
  intro j
  by_cases hj : j = k
  · subst hj
    by_cases hN : j < N
    · rw [List.getElem?_set_self (by simpa using hN), List.getElem?_map, List.getElem?_range hN]
      simp [h2]
    · rw [List.getElem?_eq_none (by simpa using Nat.not_lt.mp hN), List.getElem?_eq_none (by simpa using Nat.not_lt.mp hN)]
  · rw [List.getElem?_set_ne (fun e => hj e.symm)]
    by_cases hN : j < N
    · rw [List.getElem?_map, List.getElem?_map, List.getElem?_range hN]
      simp [h1 j hj]
    · rw [List.getElem?_eq_none (by simpa using Nat.not_lt.mp hN), List.getElem?_eq_none (by simpa using Nat.not_lt.mp hN)]
theorem wl_setf {Ω : OT} {μ : Mem} {l ci k : Nat} {x : Int32} {v : Value} (h : tg l = ci) (hc : ci < 10) (hv : fv Ω ci l (mset μ l k x) k = v) : (wl Ω μ).set l (oF Ω l, .inr (ci, ((List.range (nf ci)).map (fv Ω ci l μ)).set k v)) = wl Ω (mset μ l k x) := by
  refine wl_set (tg_ltO h (by omega)) (fun k' hk j => if_neg (fun q => hk q.1)) ?_
  rw [ent_obj Ω _ h hc]
  congr 2
  exact (map_set_range (f := fv Ω ci l μ) (f' := fv Ω ci l (mset μ l k x)) (fun j hj => fv_congr (if_neg (fun q => hj q.2))) hv).symm
end
section
/-! BASE 2: the judgement G over the machine, and a row an instruction -/
def aboveF (i : Nat) : Int32 := [-1, 0, 0, 0, 1, 2, 0].getD i 0
def bodiesF (i : Nat) : Int32 := [10, 11, 12, 13, 20, 0, 0, 21, 0, 30, 0, 0, 0, 0, 40, 0, 50, 0, 51, 0, 0, 60, 0, 0, 70, 71, 0, 0].getD i 0
def lenS : List Nat := [4, 4]
def bytS : List (List Int32) := [[107, 108, 103, 109], [99, 115, 100, 109]]
/-- what lies in the old heap and is only read -/
def STA (Ω : OT) (U : State) (H : Heap) : Prop :=
  va_Z "LeftLacks" "ABOVE" "[I" (.ref (oS Ω 0)) (AA Ω) U H ∧ va_T .int (oS Ω 0) 7 (fun i => .int (aboveF i)) (AA Ω) U H ∧
  va_Z "LeftLacks$Speaker" "BODIES" "[I" (.ref (oS Ω 1)) (AA Ω) U H ∧ va_T .int (oS Ω 1) 28 (fun i => .int (bodiesF i)) (AA Ω) U H ∧
  vk_S 2 lenS bytS (fun i => oS Ω (2 + i)) (fun i => oS Ω (4 + i)) (AA Ω) U H
def STB (Ω : OT) (U : State) : Prop := vk_R "LeftLacks$Reader" 18 "klgm" (oS Ω 2) U ∧ vk_R "LeftLacks$Reader" 44 "csdm" (oS Ω 3) U
/-- the links between the nested classes -/
def ntM : List (String × Nat × MethodName × String) := [("LeftLacks$World", 49, ⟨"LeftLacks$Shop", "<init>", "()V"⟩, "LeftLacks"), ("LeftLacks$World", 50, ⟨"LeftLacks$Customer", "<init>", "()V"⟩, "LeftLacks"), ("LeftLacks$World", 51, ⟨"LeftLacks$Formula", "<init>", "()V"⟩, "LeftLacks"), ("LeftLacks", 30, ⟨"LeftLacks$Reader", "<init>", "()V"⟩, "LeftLacks"), ("LeftLacks", 37, ⟨"LeftLacks$Speaker", "<init>", "()V"⟩, "LeftLacks"), ("LeftLacks", 44, ⟨"LeftLacks$Search", "<init>", "()V"⟩, "LeftLacks"), ("LeftLacks", 53, ⟨"LeftLacks$Sheet", "<init>", "()V"⟩, "LeftLacks"), ("LeftLacks$World", 98, ⟨"LeftLacks", "within", "(III)Z"⟩, "LeftLacks"), ("LeftLacks$Shop", 43, ⟨"LeftLacks", "within", "(III)Z"⟩, "LeftLacks"), ("LeftLacks$World", 160, ⟨"LeftLacks", "hold", "(III)I"⟩, "LeftLacks"), ("LeftLacks$Reader", 54, ⟨"LeftLacks", "within", "(III)Z"⟩, "LeftLacks"), ("LeftLacks$Shop", 49, ⟨"LeftLacks", "hold", "(III)I"⟩, "LeftLacks"), ("LeftLacks$Speaker", 62, ⟨"LeftLacks", "within", "(III)Z"⟩, "LeftLacks")]
def NTW (U : State) : Prop := (∀ q ∈ ntM, va_Nw (.methodLinkNest q.1 q.2.1 q.2.2.1 q.2.2.2) U) ∧ va_Nw (.fieldLinkNest "LeftLacks$Speaker" 51 "LeftLacks" "ABOVE" "[I" "LeftLacks") U
theorem STA.moved {Ω : OT} {u U : State} {H : Heap} (hvm : u.vm.Alike U.vm) (h : STA Ω u H) : STA Ω U H := ⟨h.1.moved hvm, h.2.1.moved hvm, h.2.2.1.moved hvm, h.2.2.2.1.moved hvm, h.2.2.2.2.moved hvm⟩
theorem STA.kept {Ω : OT} {U : State} {H H1 : Heap} (h : STA Ω U H) (hq : ∀ a : Nat, a < H.size → ¬ AA Ω a → H1[a]? = H[a]?) : STA Ω U H1 := ⟨h.1.kept hq, h.2.1.kept hq, h.2.2.1.kept hq, h.2.2.2.1.kept hq, h.2.2.2.2.kept hq⟩
theorem STB.warm {Ω : OT} {s U : State} (hW : s.WarmedH U.vm) (h : STB Ω s) : STB Ω U := ⟨h.1.warm hW, h.2.warm hW⟩
theorem NTW.warm {s U : State} (hW : s.WarmedH U.vm) (h : NTW s) : NTW U := ⟨fun q hq => (h.1 q hq).warmM hW, h.2.warmF hW⟩
theorem NTW.same {u U : State} (hv : u.vm = U.vm) (h : NTW u) : NTW U := ⟨fun q hq => (h.1 q hq).same rfl hv, h.2.same rfl hv⟩
abbrev KT : Type := (Program × Env × Room × State × MethodId × Array Value × List Frame × Method × Code) × OT × (Nat × Nat × (Int32 → Mem → State → Prop))
abbrev kp (K : KT) : Program := K.1.1
abbrev ke (K : KT) : Env := K.1.2.1
abbrev kR (K : KT) : Room := K.1.2.2.1
abbrev ks (K : KT) : State := K.1.2.2.2.1
abbrev km (K : KT) : MethodId := K.1.2.2.2.2.1
abbrev ka (K : KT) : Array Value := K.1.2.2.2.2.2.1
abbrev kb (K : KT) : List Frame := K.1.2.2.2.2.2.2.1
abbrev kt (K : KT) : Method := K.1.2.2.2.2.2.2.2.1
abbrev kc (K : KT) : Code := K.1.2.2.2.2.2.2.2.2
abbrev kO (K : KT) : OT := K.2.1
/-- the cell's address -/
abbrev kf (K : KT) (l : Nat) : Nat := K.2.1.2.1 l
abbrev kn (K : KT) : Nat := K.2.2.1
abbrev kz (K : KT) : Nat := K.2.2.2.1
abbrev kQ (K : KT) : Int32 → Mem → State → Prop := K.2.2.2.2
abbrev KW (K : KT) (H : Heap) (locs : List Loc) (Q : State → Prop) (g : JFrame) : Prop := W (kp K) (kO K).1 (ke K) (kR K) (ks K) (km K) (ka K) (kb K) (kt K) (kc K) H locs (kn K) (kz K) Q g
abbrev Res : Type := Option (Int32 × Mem)
/-- from pc on, with these locals, this stack, this memory: if X is an answer, the method ends with it -/
def G (K : KT) (pc : Nat) (L : List (Nat × Value)) (st : List Value) (μ : Mem) (X : Res) : Prop :=
  ∀ (r : Int32) (μ' : Mem), X = some (r, μ') → ∀ (H : Heap) (locs : List Loc) (ls : Array Slot), va_P (oD (kO K)) cls10 (wl (kO K) μ) H → va_S (AA (kO K)) (ks K).heap H locs → lv_has ls (kc K).maxLocals L → KW K H locs (kQ K r μ') (F0 (km K) pc ls st)
/-- what the method stands on -/
def Cx (K : KT) (cc : ByteArray) (own : String) (nL d : Nat) : Prop :=
  (kp K).tables.exec = Jvm.exec ∧ (kc K).code = cc ∧ (kc K).maxLocals = nL ∧ (ks K).vm.findClass own = some (km K).cls ∧ (∀ w ∈ gtbl, w.before (ka K) (ks K) = true) ∧ NTW (ks K) ∧ va_K (oD (kO K)) cls10 (tys (kO K)) (ks K) ∧ PHI (kO K) ∧ STA (kO K) (ks K) (ks K).heap ∧ STB (kO K) (ks K) ∧ d ≤ (kR K).frames ∧ 64 * d ≤ (kR K).locals ∧ kn K ≤ (kR K).cells ∧ kz K ≤ (kR K).slots
section CX
variable {K : KT} {cc : ByteArray} {own : String} {nL d : Nat}
theorem Cx.x (C : Cx K cc own nL d) : (kp K).tables.exec = Jvm.exec := C.1
theorem Cx.b (C : Cx K cc own nL d) : (kc K).code = cc := C.2.1
theorem Cx.l (C : Cx K cc own nL d) : (kc K).maxLocals = nL := C.2.2.1
theorem Cx.o (C : Cx K cc own nL d) : (ks K).vm.findClass own = some (km K).cls := C.2.2.2.1
theorem Cx.t (C : Cx K cc own nL d) : ∀ w ∈ gtbl, w.before (ka K) (ks K) = true := C.2.2.2.2.1
theorem Cx.n (C : Cx K cc own nL d) : NTW (ks K) := C.2.2.2.2.2.1
theorem Cx.k (C : Cx K cc own nL d) : va_K (oD (kO K)) cls10 (tys (kO K)) (ks K) := C.2.2.2.2.2.2.1
theorem Cx.p (C : Cx K cc own nL d) : PHI (kO K) := C.2.2.2.2.2.2.2.1
theorem Cx.sa (C : Cx K cc own nL d) : STA (kO K) (ks K) (ks K).heap := C.2.2.2.2.2.2.2.2.1
theorem Cx.sb (C : Cx K cc own nL d) : STB (kO K) (ks K) := C.2.2.2.2.2.2.2.2.2.1
theorem Cx.r (C : Cx K cc own nL d) : d ≤ (kR K).frames ∧ 64 * d ≤ (kR K).locals ∧ kn K ≤ (kR K).cells ∧ kz K ≤ (kR K).slots := C.2.2.2.2.2.2.2.2.2.2
end CX
def rvv (ret : Option FieldType) (r : Int32) : Option Value := match ret with
  | none => none
  | some _ => some (.int r)
/-- what a method leaves -/
def Qm (Ω : OT) (ret : Option FieldType) (r : Int32) (μ' : Mem) : Array Value → State → Outcome → State → Prop := fun _ st o t => o = .returned (rvv ret r) ∧ va_P (oD Ω) cls10 (wl Ω μ') t.heap ∧ va_F (AA Ω) st t
/-- what a method finds -/
def Pm (Ω : OT) (av : List Value) (μ : Mem) : Array Value → State → Prop := fun a U => a = av.toArray ∧ va_P (oD Ω) cls10 (wl Ω μ) U.heap ∧ va_K (oD Ω) cls10 (tys Ω) U ∧ PHI Ω ∧ STA Ω U U.heap ∧ STB Ω U ∧ NTW U
abbrev rmD (d : Nat) : Room := { frames := d, cells := 0, slots := 0, locals := 64 * d }
/-- a method's contract: if X is an answer, the method returns it, and leaves that memory -/
def Ct (Ω : OT) (y : MethodName) (cc : ByteArray) (nL : Nat) (ret : Option FieldType) (d : Nat) (av : List Value) (μ : Mem) (X : Res) : Prop :=
  ∀ (r : Int32) (μ' : Mem), X = some (r, μ') → Met Ω.1 y (Cond.code y cc nL ret :: gtbl) (rmD d) (Pm Ω av μ) (Qm Ω ret r μ') 0 0 (AA Ω)
/-- how the method may return -/
def Rx (K : KT) (ret : Option FieldType) : Prop := (∀ r μ', kQ K r μ' = MQ (kb K) (Qm (kO K) ret r μ') (ka K) (ks K) (kn K) (kz K) (AA (kO K))) ∧ (kt K).sig.returnType = ret ∧ (kt K).locks = false
theorem Ct_of {Ω : OT} {y : MethodName} {cc : ByteArray} {nL : Nat} {ret : Option FieldType} {d : Nat} {av : List Value} {μ : Mem} {X : Res} (hy : plainName y.cls = true) (hlen : (lg_sl av).length ≤ nL)
    (h : ∀ K : KT, kO K = Ω → Cx K cc y.cls nL d → Rx K ret → G K 0 (lv_args 0 av) [] μ X) : Ct Ω y cc nL ret d av μ X := by
  intro r μ' hX
  refine Met.ofW (cc := cc) (maxL := nL) (ret := ret) hy rfl ?_
  intro p e s m args below meth c s₁ B hml hv
  obtain ⟨rfl, hP, hK, hphi, hsa, hsb, hn⟩ := hv
  have hts := atoms_spec (ws := Cond.code y cc nL ret :: gtbl) B.pre
  have hown : s.vm.findClass y.cls = some m.cls := findClass_of_methodNamed B.named
  have hlocks := B.notSynchronized
  have hl := lv_entry av (n := nL) hlen
  rw [lg_entry_eq]
  have key := h ((p, e, (headSpec (Cond.code y cc nL ret :: gtbl) (rmD d)).room, s, m, av.toArray, below, meth, c), Ω, (0, 0, fun r μ' => MQ below (Qm Ω ret r μ') av.toArray s 0 0 (AA Ω))) rfl
    ⟨B.exec, B.bytes, hml, hown, fun w hw => hts w (List.mem_cons_of_mem _ hw), hn, hK, hphi, hsa, hsb, Nat.le_refl _, Nat.le_refl _, Nat.zero_le _, Nat.zero_le _⟩
    ⟨fun _ _ => rfl, B.returns, hlocks⟩
  exact key r μ' hX s.heap [] _ hP va_S.rf (by rw [show (kc _).maxLocals = nL from hml]; exact hl)
section GROWS
variable {K : KT} {cc : ByteArray} {own : String} {nL d pc : Nat} {L : List (Nat × Value)} {st : List Value} {μ : Mem} {X : Res}
def bnd {α β : Type} (a : α) (f : α → β) : β := f a
def imin (x y : Int32) : Int32 := if y < x then y else x
def imax (x y : Int32) : Int32 := if x < y then y else x
def irm (x y : Int32) : Int32 := x - x / y * y
def isl (x y : Int32) : Int32 := x <<< (y &&& 31)
def isr (x y : Int32) : Int32 := x >>> (y &&& 31)
def iur (x y : Int32) : Int32 := (x.toUInt32 >>> (y.toUInt32 &&& Int32.toUInt32 31)).toInt32
def lur (x : Int64) (y : Int32) : Int64 := (x.toUInt64 >>> (y.toInt64.toUInt64 &&& Int64.toUInt64 63)).toInt64
def lsr (x : Int64) (y : Int32) : Int64 := x >>> (y.toInt64 &&& 63)
def lsl (x : Int64) (y : Int32) : Int64 := x <<< (y.toInt64 &&& 63)
theorem g_iconst (C : Cx K cc own nL d) {n : Int} (v : Int32) (dg : decode cc pc = .ok (.iconst n, 1)) (hv : Int32.ofInt n = v) (g : G K (pc + 1) L (.int v :: st) μ X) : G K pc L st μ X := fun r μ' hX H locs ls hP hS hl => lv_iconst C.x C.b dg hv (g r μ' hX H locs ls hP hS hl)
theorem g_bipush (C : Cx K cc own nL d) {n : Int} (v : Int32) (dg : decode cc pc = .ok (.bipush n, 2)) (hv : (Int8.ofInt n).toInt32 = v) (g : G K (pc + 2) L (.int v :: st) μ X) : G K pc L st μ X := fun r μ' hX H locs ls hP hS hl => lv_bipush C.x C.b dg hv (g r μ' hX H locs ls hP hS hl)
theorem g_sipush (C : Cx K cc own nL d) {n : Int} (v : Int32) (dg : decode cc pc = .ok (.sipush n, 3)) (hv : (Int16.ofInt n).toInt32 = v) (g : G K (pc + 3) L (.int v :: st) μ X) : G K pc L st μ X := fun r μ' hX H locs ls hP hS hl => lv_sipush C.x C.b dg hv (g r μ' hX H locs ls hP hS hl)
theorem g_ldc (C : Cx K cc own nL d) {index : Nat} {v : Int32} (hw : Cond.constant own index v ∈ gtbl) (dg : decode cc pc = .ok (.ldc index, 2)) (g : G K (pc + 2) L (.int v :: st) μ X) : G K pc L st μ X := fun r μ' hX H locs ls hP hS hl => lv_ldc C.x C.b C.o (C.t _ hw) dg (g r μ' hX H locs ls hP hS hl)
theorem g_ldc2 (C : Cx K cc own nL d) {index : Nat} {v : Int64} (hw : Cond.constantLong own index v ∈ gtbl) (dg : decode cc pc = .ok (.ldc2_w index, 3)) (g : G K (pc + 3) L (.long v :: st) μ X) : G K pc L st μ X := fun r μ' hX H locs ls hP hS hl => lv_ldc2 C.x C.b C.o (C.t _ hw) dg (g r μ' hX H locs ls hP hS hl)
theorem g_iload_n (C : Cx K cc own nL d) {j : Fin 4} {i : Nat} {x : Int32} (dg : decode cc pc = .ok (.iload_n j, 1)) (k : Nat) (hi : (j : Nat) = i) (hk : L[k]? = some (i, .int x)) (g : G K (pc + 1) L (.int x :: st) μ X) : G K pc L st μ X := fun r μ' hX H locs ls hP hS hl => lv_iload_n C.x C.b dg hi (lv_at hl k hk) (g r μ' hX H locs ls hP hS hl)
theorem g_iload (C : Cx K cc own nL d) {i : Nat} {x : Int32} (dg : decode cc pc = .ok (.iload i, 2)) (k : Nat) (hk : L[k]? = some (i, .int x)) (g : G K (pc + 2) L (.int x :: st) μ X) : G K pc L st μ X := fun r μ' hX H locs ls hP hS hl => lv_iload C.x C.b dg (lv_at hl k hk) (g r μ' hX H locs ls hP hS hl)
theorem g_istore_n (C : Cx K cc own nL d) {j : Fin 4} {i : Nat} {x : Int32} {L' : List (Nat × Value)} (dg : decode cc pc = .ok (.istore_n j, 1)) (hi : (j : Nat) = i) (hn : i < nL) (hL : (i, Value.int x) :: L.filter (fun q => !(q.1 == i) && !(q.1 + 1 == i && q.2.category == 2)) = L') (g : G K (pc + 1) L' st μ X) : G K pc L (.int x :: st) μ X := fun r μ' hX H locs ls hP hS hl => lv_istore_n C.x C.b dg hi hl (by rw [C.l]; exact hn) hL (fun ls2 hl2 => g r μ' hX H locs ls2 hP hS hl2)
theorem g_istore (C : Cx K cc own nL d) {i : Nat} {x : Int32} {L' : List (Nat × Value)} (dg : decode cc pc = .ok (.istore i, 2)) (hn : i < nL) (hL : (i, Value.int x) :: L.filter (fun q => !(q.1 == i) && !(q.1 + 1 == i && q.2.category == 2)) = L') (g : G K (pc + 2) L' st μ X) : G K pc L (.int x :: st) μ X := fun r μ' hX H locs ls hP hS hl => lv_istore C.x C.b dg hl (by rw [C.l]; exact hn) hL (fun ls2 hl2 => g r μ' hX H locs ls2 hP hS hl2)
theorem g_aload_n (C : Cx K cc own nL d) {j : Fin 4} {i : Nat} {x : Nat} (dg : decode cc pc = .ok (.aload_n j, 1)) (k : Nat) (hi : (j : Nat) = i) (hk : L[k]? = some (i, .ref x)) (g : G K (pc + 1) L (.ref x :: st) μ X) : G K pc L st μ X := fun r μ' hX H locs ls hP hS hl => lv_aload_n C.x C.b dg hi (lv_at hl k hk) (g r μ' hX H locs ls hP hS hl)
theorem g_aload (C : Cx K cc own nL d) {i : Nat} {x : Nat} (dg : decode cc pc = .ok (.aload i, 2)) (k : Nat) (hk : L[k]? = some (i, .ref x)) (g : G K (pc + 2) L (.ref x :: st) μ X) : G K pc L st μ X := fun r μ' hX H locs ls hP hS hl => lv_aload C.x C.b dg (lv_at hl k hk) (g r μ' hX H locs ls hP hS hl)
theorem g_astore_n (C : Cx K cc own nL d) {j : Fin 4} {i : Nat} {x : Nat} {L' : List (Nat × Value)} (dg : decode cc pc = .ok (.astore_n j, 1)) (hi : (j : Nat) = i) (hn : i < nL) (hL : (i, Value.ref x) :: L.filter (fun q => !(q.1 == i) && !(q.1 + 1 == i && q.2.category == 2)) = L') (g : G K (pc + 1) L' st μ X) : G K pc L (.ref x :: st) μ X := fun r μ' hX H locs ls hP hS hl => lv_astore_n C.x C.b dg hi hl (by rw [C.l]; exact hn) hL (fun ls2 hl2 => g r μ' hX H locs ls2 hP hS hl2)
theorem g_astore (C : Cx K cc own nL d) {i : Nat} {x : Nat} {L' : List (Nat × Value)} (dg : decode cc pc = .ok (.astore i, 2)) (hn : i < nL) (hL : (i, Value.ref x) :: L.filter (fun q => !(q.1 == i) && !(q.1 + 1 == i && q.2.category == 2)) = L') (g : G K (pc + 2) L' st μ X) : G K pc L (.ref x :: st) μ X := fun r μ' hX H locs ls hP hS hl => lv_astore C.x C.b dg hl (by rw [C.l]; exact hn) hL (fun ls2 hl2 => g r μ' hX H locs ls2 hP hS hl2)
theorem g_lload_n (C : Cx K cc own nL d) {j : Fin 4} {i : Nat} {x : Int64} (dg : decode cc pc = .ok (.lload_n j, 1)) (k : Nat) (hi : (j : Nat) = i) (hk : L[k]? = some (i, .long x)) (g : G K (pc + 1) L (.long x :: st) μ X) : G K pc L st μ X := fun r μ' hX H locs ls hP hS hl => lv_lload_n C.x C.b dg hi (lv_at hl k hk) (g r μ' hX H locs ls hP hS hl)
theorem g_iinc (C : Cx K cc own nL d) {i k : Nat} {n : Int} {x w : Int32} {L' : List (Nat × Value)} {kx : Int32 → Res} (dg : decode cc pc = .ok (.iinc i n, 3)) (hk : L[k]? = some (i, .int x)) (hw : Int32.ofInt n = w) (hn : i < nL) (L' : Int32 → List (Nat × Value)) (hL : ∀ v, (i, Value.int v) :: L.filter (fun q => !(q.1 == i) && !(q.1 + 1 == i && q.2.category == 2)) = L' v) (g : ∀ v, G K (pc + 3) (L' v) st μ (kx v)) : G K pc L st μ (bnd (x + w) kx) := fun r μ' hX H locs ls hP hS hl => lv_iinc (v := x + w) C.x C.b dg hl hk (by rw [hw]) (by rw [C.l]; exact hn) (hL _) (fun ls2 hl2 => g (x + w) r μ' hX H locs ls2 hP hS hl2)
theorem g_iadd (C : Cx K cc own nL d) {x y : Int32} (dg : decode cc pc = .ok (.iadd, 1)) (g : G K (pc + 1) L (.int (x + y) :: st) μ X) : G K pc L (.int y :: .int x :: st) μ X := fun r μ' hX H locs ls hP hS hl => lv_iadd C.x C.b dg  (g r μ' hX H locs ls hP hS hl)
theorem g_isub (C : Cx K cc own nL d) {x y : Int32} (dg : decode cc pc = .ok (.isub, 1)) (g : G K (pc + 1) L (.int (x - y) :: st) μ X) : G K pc L (.int y :: .int x :: st) μ X := fun r μ' hX H locs ls hP hS hl => lv_isub C.x C.b dg  (g r μ' hX H locs ls hP hS hl)
theorem g_imul (C : Cx K cc own nL d) {x y : Int32} (dg : decode cc pc = .ok (.imul, 1)) (g : G K (pc + 1) L (.int (x * y) :: st) μ X) : G K pc L (.int y :: .int x :: st) μ X := fun r μ' hX H locs ls hP hS hl => lv_imul C.x C.b dg  (g r μ' hX H locs ls hP hS hl)
theorem g_iand (C : Cx K cc own nL d) {x y : Int32} (dg : decode cc pc = .ok (.iand, 1)) (g : G K (pc + 1) L (.int (x &&& y) :: st) μ X) : G K pc L (.int y :: .int x :: st) μ X := fun r μ' hX H locs ls hP hS hl => lv_iand C.x C.b dg  (g r μ' hX H locs ls hP hS hl)
theorem g_ior (C : Cx K cc own nL d) {x y : Int32} (dg : decode cc pc = .ok (.ior, 1)) (g : G K (pc + 1) L (.int (x ||| y) :: st) μ X) : G K pc L (.int y :: .int x :: st) μ X := fun r μ' hX H locs ls hP hS hl => lv_ior C.x C.b dg  (g r μ' hX H locs ls hP hS hl)
theorem g_ixor (C : Cx K cc own nL d) {x y : Int32} (dg : decode cc pc = .ok (.ixor, 1)) (g : G K (pc + 1) L (.int (x ^^^ y) :: st) μ X) : G K pc L (.int y :: .int x :: st) μ X := fun r μ' hX H locs ls hP hS hl => lv_ixor C.x C.b dg  (g r μ' hX H locs ls hP hS hl)
theorem g_ishl (C : Cx K cc own nL d) {x y : Int32} (dg : decode cc pc = .ok (.ishl, 1)) (g : G K (pc + 1) L (.int (isl x y) :: st) μ X) : G K pc L (.int y :: .int x :: st) μ X := fun r μ' hX H locs ls hP hS hl => lv_ishl C.x C.b dg  (g r μ' hX H locs ls hP hS hl)
theorem g_ishr (C : Cx K cc own nL d) {x y : Int32} (dg : decode cc pc = .ok (.ishr, 1)) (g : G K (pc + 1) L (.int (isr x y) :: st) μ X) : G K pc L (.int y :: .int x :: st) μ X := fun r μ' hX H locs ls hP hS hl => lv_ishr C.x C.b dg  (g r μ' hX H locs ls hP hS hl)
theorem g_ineg (C : Cx K cc own nL d) {x : Int32} (dg : decode cc pc = .ok (.ineg, 1)) (g : G K (pc + 1) L (.int (-x) :: st) μ X) : G K pc L (.int x :: st) μ X := fun r μ' hX H locs ls hP hS hl => lv_ineg C.x C.b dg  (g r μ' hX H locs ls hP hS hl)
theorem g_iushr (C : Cx K cc own nL d) {x y : Int32} (dg : decode cc pc = .ok (.iushr, 1)) (g : G K (pc + 1) L (.int (iur x y) :: st) μ X) : G K pc L (.int y :: .int x :: st) μ X := fun r μ' hX H locs ls hP hS hl => lv_iushr C.x C.b dg rfl (g r μ' hX H locs ls hP hS hl)
theorem g_i2l (C : Cx K cc own nL d) {x : Int32} (dg : decode cc pc = .ok (.i2l, 1)) (g : G K (pc + 1) L (.long (x.toInt64) :: st) μ X) : G K pc L (.int x :: st) μ X := fun r μ' hX H locs ls hP hS hl => lv_i2l C.x C.b dg rfl (g r μ' hX H locs ls hP hS hl)
theorem g_l2i (C : Cx K cc own nL d) {x : Int64} (dg : decode cc pc = .ok (.l2i, 1)) (g : G K (pc + 1) L (.int (x.toInt32) :: st) μ X) : G K pc L (.long x :: st) μ X := fun r μ' hX H locs ls hP hS hl => lv_l2i C.x C.b dg rfl (g r μ' hX H locs ls hP hS hl)
theorem g_i2b (C : Cx K cc own nL d) {x : Int32} (dg : decode cc pc = .ok (.i2b, 1)) (g : G K (pc + 1) L (.int (x.toInt8.toInt32) :: st) μ X) : G K pc L (.int x :: st) μ X := fun r μ' hX H locs ls hP hS hl => lv_i2b C.x C.b dg rfl (g r μ' hX H locs ls hP hS hl)
theorem g_i2s (C : Cx K cc own nL d) {x : Int32} (dg : decode cc pc = .ok (.i2s, 1)) (g : G K (pc + 1) L (.int (x.toInt16.toInt32) :: st) μ X) : G K pc L (.int x :: st) μ X := fun r μ' hX H locs ls hP hS hl => lv_i2s C.x C.b dg rfl (g r μ' hX H locs ls hP hS hl)
theorem g_i2c (C : Cx K cc own nL d) {x : Int32} (dg : decode cc pc = .ok (.i2c, 1)) (g : G K (pc + 1) L (.int ((x.toUInt32 % 65536).toInt32) :: st) μ X) : G K pc L (.int x :: st) μ X := fun r μ' hX H locs ls hP hS hl => lv_i2c C.x C.b dg rfl (g r μ' hX H locs ls hP hS hl)
theorem g_land (C : Cx K cc own nL d) {x y : Int64} (dg : decode cc pc = .ok (.land, 1)) (g : G K (pc + 1) L (.long (x &&& y) :: st) μ X) : G K pc L (.long y :: .long x :: st) μ X := fun r μ' hX H locs ls hP hS hl => lv_land C.x C.b dg  (g r μ' hX H locs ls hP hS hl)
theorem g_lor (C : Cx K cc own nL d) {x y : Int64} (dg : decode cc pc = .ok (.lor, 1)) (g : G K (pc + 1) L (.long (x ||| y) :: st) μ X) : G K pc L (.long y :: .long x :: st) μ X := fun r μ' hX H locs ls hP hS hl => lv_lor C.x C.b dg  (g r μ' hX H locs ls hP hS hl)
theorem g_lushr (C : Cx K cc own nL d) {x : Int64} {y : Int32} (dg : decode cc pc = .ok (.lushr, 1)) (g : G K (pc + 1) L (.long (lur x y) :: st) μ X) : G K pc L (.int y :: .long x :: st) μ X := fun r μ' hX H locs ls hP hS hl => lv_lushr C.x C.b dg rfl (g r μ' hX H locs ls hP hS hl)
theorem g_lshr (C : Cx K cc own nL d) {x : Int64} {y : Int32} (dg : decode cc pc = .ok (.lshr, 1)) (g : G K (pc + 1) L (.long (lsr x y) :: st) μ X) : G K pc L (.int y :: .long x :: st) μ X := fun r μ' hX H locs ls hP hS hl => lv_lshr C.x C.b dg rfl (g r μ' hX H locs ls hP hS hl)
theorem g_lshl (C : Cx K cc own nL d) {x : Int64} {y : Int32} (dg : decode cc pc = .ok (.lshl, 1)) (g : G K (pc + 1) L (.long (lsl x y) :: st) μ X) : G K pc L (.int y :: .long x :: st) μ X := fun r μ' hX H locs ls hP hS hl => lv_lshl C.x C.b dg rfl (g r μ' hX H locs ls hP hS hl)
theorem g_idiv (C : Cx K cc own nL d) {x y : Int32} (dg : decode cc pc = .ok (.idiv, 1)) (g : ¬ y = 0 → G K (pc + 1) L (.int (x / y) :: st) μ X) : G K pc L (.int y :: .int x :: st) μ (gd (!(y == 0)) X) := by
  intro r μ' hX H locs ls hP hS hl
  obtain ⟨h1, h2⟩ := gd_some hX
  have h3 : ¬ y = 0 := by simpa using h1
  exact lv_idiv C.x C.b dg h3 (g h3 r μ' h2 H locs ls hP hS hl)
theorem g_irem (C : Cx K cc own nL d) {x y : Int32} (dg : decode cc pc = .ok (.irem, 1)) (g : ¬ y = 0 → G K (pc + 1) L (.int (irm x y) :: st) μ X) : G K pc L (.int y :: .int x :: st) μ (gd (!(y == 0)) X) := by
  intro r μ' hX H locs ls hP hS hl
  obtain ⟨h1, h2⟩ := gd_some hX
  have h3 : ¬ y = 0 := by simpa using h1
  exact lv_irem C.x C.b dg h3 (g h3 r μ' h2 H locs ls hP hS hl)
theorem g_dup (C : Cx K cc own nL d) {v : Value} (dg : decode cc pc = .ok (.dup, 1)) (hv : v.category = 1) (g : G K (pc + 1) L (v :: v :: st) μ X) : G K pc L (v :: st) μ X := fun r μ' hX H locs ls hP hS hl => lv_dup C.x C.b dg hv (g r μ' hX H locs ls hP hS hl)
theorem g_pop (C : Cx K cc own nL d) {v : Value} (dg : decode cc pc = .ok (.pop, 1)) (hv : v.category = 1) (g : G K (pc + 1) L (st) μ X) : G K pc L (v :: st) μ X := fun r μ' hX H locs ls hP hS hl => lv_pop C.x C.b dg hv (g r μ' hX H locs ls hP hS hl)
theorem g_dup2 (C : Cx K cc own nL d) {v w : Value} (dg : decode cc pc = .ok (.dup2, 1)) (hv : v.category = 1) (hw : w.category = 1) (g : G K (pc + 1) L (v :: w :: v :: w :: st) μ X) : G K pc L (v :: w :: st) μ X := fun r μ' hX H locs ls hP hS hl => lv_dup2_11 C.x C.b dg hv hw (g r μ' hX H locs ls hP hS hl)
theorem g_icmp_eq (C : Cx K cc own nL d) {x y : Int32} {off : Int} (tgt : Nat) {X1 X2 : Res} (dg : decode cc pc = .ok (.if_icmp .eq off, 3)) (ht : (pc : Int) + off = (tgt : Int)) (g1 : x = y → G K tgt L st μ X1) (g2 : ¬ (x = y) → G K (pc + 3) L st μ X2) : G K pc L (.int y :: .int x :: st) μ (if x = y then X1 else X2) := by
  intro r μ' hX H locs ls hP hS hl
  refine lv_icmp_eq C.x C.b dg ht (fun q => g1 q r μ' (by rw [if_pos q] at hX; exact hX) H locs ls hP hS hl) (fun q => g2 q r μ' (by rw [if_neg q] at hX; exact hX) H locs ls hP hS hl)
theorem g_if_eq (C : Cx K cc own nL d) {x : Int32} {off : Int} (tgt : Nat) {X1 X2 : Res} (dg : decode cc pc = .ok (.ifCond .eq off, 3)) (ht : (pc : Int) + off = (tgt : Int)) (g1 : x = 0 → G K tgt L st μ X1) (g2 : ¬ (x = 0) → G K (pc + 3) L st μ X2) : G K pc L (.int x :: st) μ (if x = 0 then X1 else X2) := by
  intro r μ' hX H locs ls hP hS hl
  refine lv_if_eq C.x C.b dg ht (fun q => g1 q r μ' (by rw [if_pos q] at hX; exact hX) H locs ls hP hS hl) (fun q => g2 q r μ' (by rw [if_neg q] at hX; exact hX) H locs ls hP hS hl)
theorem g_icmp_ne (C : Cx K cc own nL d) {x y : Int32} {off : Int} (tgt : Nat) {X1 X2 : Res} (dg : decode cc pc = .ok (.if_icmp .ne off, 3)) (ht : (pc : Int) + off = (tgt : Int)) (g1 : ¬ (x = y) → G K tgt L st μ X1) (g2 : x = y → G K (pc + 3) L st μ X2) : G K pc L (.int y :: .int x :: st) μ (if x = y then X2 else X1) := by
  intro r μ' hX H locs ls hP hS hl
  refine lv_icmp_ne C.x C.b dg ht (fun q => g1 q r μ' (by rw [if_neg q] at hX; exact hX) H locs ls hP hS hl) (fun q => g2 q r μ' (by rw [if_pos q] at hX; exact hX) H locs ls hP hS hl)
theorem g_if_ne (C : Cx K cc own nL d) {x : Int32} {off : Int} (tgt : Nat) {X1 X2 : Res} (dg : decode cc pc = .ok (.ifCond .ne off, 3)) (ht : (pc : Int) + off = (tgt : Int)) (g1 : ¬ (x = 0) → G K tgt L st μ X1) (g2 : x = 0 → G K (pc + 3) L st μ X2) : G K pc L (.int x :: st) μ (if x = 0 then X2 else X1) := by
  intro r μ' hX H locs ls hP hS hl
  refine lv_if_ne C.x C.b dg ht (fun q => g1 q r μ' (by rw [if_neg q] at hX; exact hX) H locs ls hP hS hl) (fun q => g2 q r μ' (by rw [if_pos q] at hX; exact hX) H locs ls hP hS hl)
theorem g_icmp_lt (C : Cx K cc own nL d) {x y : Int32} {off : Int} (tgt : Nat) {X1 X2 : Res} (dg : decode cc pc = .ok (.if_icmp .lt off, 3)) (ht : (pc : Int) + off = (tgt : Int)) (g1 : x < y → G K tgt L st μ X1) (g2 : ¬ (x < y) → G K (pc + 3) L st μ X2) : G K pc L (.int y :: .int x :: st) μ (if x < y then X1 else X2) := by
  intro r μ' hX H locs ls hP hS hl
  refine lv_icmp_lt C.x C.b dg ht (fun q => g1 q r μ' (by rw [if_pos q] at hX; exact hX) H locs ls hP hS hl) (fun q => g2 q r μ' (by rw [if_neg q] at hX; exact hX) H locs ls hP hS hl)
theorem g_if_lt (C : Cx K cc own nL d) {x : Int32} {off : Int} (tgt : Nat) {X1 X2 : Res} (dg : decode cc pc = .ok (.ifCond .lt off, 3)) (ht : (pc : Int) + off = (tgt : Int)) (g1 : x < 0 → G K tgt L st μ X1) (g2 : ¬ (x < 0) → G K (pc + 3) L st μ X2) : G K pc L (.int x :: st) μ (if x < 0 then X1 else X2) := by
  intro r μ' hX H locs ls hP hS hl
  refine lv_if_lt C.x C.b dg ht (fun q => g1 q r μ' (by rw [if_pos q] at hX; exact hX) H locs ls hP hS hl) (fun q => g2 q r μ' (by rw [if_neg q] at hX; exact hX) H locs ls hP hS hl)
theorem g_icmp_ge (C : Cx K cc own nL d) {x y : Int32} {off : Int} (tgt : Nat) {X1 X2 : Res} (dg : decode cc pc = .ok (.if_icmp .ge off, 3)) (ht : (pc : Int) + off = (tgt : Int)) (g1 : y ≤ x → G K tgt L st μ X1) (g2 : ¬ (y ≤ x) → G K (pc + 3) L st μ X2) : G K pc L (.int y :: .int x :: st) μ (if y ≤ x then X1 else X2) := by
  intro r μ' hX H locs ls hP hS hl
  refine lv_icmp_ge C.x C.b dg ht (fun q => g1 q r μ' (by rw [if_pos q] at hX; exact hX) H locs ls hP hS hl) (fun q => g2 q r μ' (by rw [if_neg q] at hX; exact hX) H locs ls hP hS hl)
theorem g_if_ge (C : Cx K cc own nL d) {x : Int32} {off : Int} (tgt : Nat) {X1 X2 : Res} (dg : decode cc pc = .ok (.ifCond .ge off, 3)) (ht : (pc : Int) + off = (tgt : Int)) (g1 : 0 ≤ x → G K tgt L st μ X1) (g2 : ¬ (0 ≤ x) → G K (pc + 3) L st μ X2) : G K pc L (.int x :: st) μ (if 0 ≤ x then X1 else X2) := by
  intro r μ' hX H locs ls hP hS hl
  refine lv_if_ge C.x C.b dg ht (fun q => g1 q r μ' (by rw [if_pos q] at hX; exact hX) H locs ls hP hS hl) (fun q => g2 q r μ' (by rw [if_neg q] at hX; exact hX) H locs ls hP hS hl)
theorem g_icmp_gt (C : Cx K cc own nL d) {x y : Int32} {off : Int} (tgt : Nat) {X1 X2 : Res} (dg : decode cc pc = .ok (.if_icmp .gt off, 3)) (ht : (pc : Int) + off = (tgt : Int)) (g1 : y < x → G K tgt L st μ X1) (g2 : ¬ (y < x) → G K (pc + 3) L st μ X2) : G K pc L (.int y :: .int x :: st) μ (if y < x then X1 else X2) := by
  intro r μ' hX H locs ls hP hS hl
  refine lv_icmp_gt C.x C.b dg ht (fun q => g1 q r μ' (by rw [if_pos q] at hX; exact hX) H locs ls hP hS hl) (fun q => g2 q r μ' (by rw [if_neg q] at hX; exact hX) H locs ls hP hS hl)
theorem g_if_gt (C : Cx K cc own nL d) {x : Int32} {off : Int} (tgt : Nat) {X1 X2 : Res} (dg : decode cc pc = .ok (.ifCond .gt off, 3)) (ht : (pc : Int) + off = (tgt : Int)) (g1 : 0 < x → G K tgt L st μ X1) (g2 : ¬ (0 < x) → G K (pc + 3) L st μ X2) : G K pc L (.int x :: st) μ (if 0 < x then X1 else X2) := by
  intro r μ' hX H locs ls hP hS hl
  refine lv_if_gt C.x C.b dg ht (fun q => g1 q r μ' (by rw [if_pos q] at hX; exact hX) H locs ls hP hS hl) (fun q => g2 q r μ' (by rw [if_neg q] at hX; exact hX) H locs ls hP hS hl)
theorem g_icmp_le (C : Cx K cc own nL d) {x y : Int32} {off : Int} (tgt : Nat) {X1 X2 : Res} (dg : decode cc pc = .ok (.if_icmp .le off, 3)) (ht : (pc : Int) + off = (tgt : Int)) (g1 : x ≤ y → G K tgt L st μ X1) (g2 : ¬ (x ≤ y) → G K (pc + 3) L st μ X2) : G K pc L (.int y :: .int x :: st) μ (if x ≤ y then X1 else X2) := by
  intro r μ' hX H locs ls hP hS hl
  refine lv_icmp_le C.x C.b dg ht (fun q => g1 q r μ' (by rw [if_pos q] at hX; exact hX) H locs ls hP hS hl) (fun q => g2 q r μ' (by rw [if_neg q] at hX; exact hX) H locs ls hP hS hl)
theorem g_if_le (C : Cx K cc own nL d) {x : Int32} {off : Int} (tgt : Nat) {X1 X2 : Res} (dg : decode cc pc = .ok (.ifCond .le off, 3)) (ht : (pc : Int) + off = (tgt : Int)) (g1 : x ≤ 0 → G K tgt L st μ X1) (g2 : ¬ (x ≤ 0) → G K (pc + 3) L st μ X2) : G K pc L (.int x :: st) μ (if x ≤ 0 then X1 else X2) := by
  intro r μ' hX H locs ls hP hS hl
  refine lv_if_le C.x C.b dg ht (fun q => g1 q r μ' (by rw [if_pos q] at hX; exact hX) H locs ls hP hS hl) (fun q => g2 q r μ' (by rw [if_neg q] at hX; exact hX) H locs ls hP hS hl)
theorem g_goto (C : Cx K cc own nL d) {off : Int} (tgt : Nat) (dg : decode cc pc = .ok (.goto off, 3)) (ht : (pc : Int) + off = (tgt : Int)) (g : G K tgt L st μ X) : G K pc L st μ X := fun r μ' hX H locs ls hP hS hl => lv_goto C.x C.b dg ht (g r μ' hX H locs ls hP hS hl)
theorem g_sub {L' : List (Nat × Value)} (ks : List Nat) (h : lv_pick L ks = L') (g : G K pc L' st μ X) : G K pc L st μ X := fun r μ' hX H locs ls hP hS hl => g r μ' hX H locs ls hP hS (lv_sub hl ks h)
theorem g_bnd {e : Int32} {kx : Int32 → Res} (g : ∀ x : Int32, G K pc L (.int x :: st) μ (kx x)) : G K pc L (.int e :: st) μ (bnd e kx) := g e
theorem g_gd {b : Bool} (g : b = true → G K pc L st μ X) : G K pc L st μ (gd b X) := fun r μ' hX H locs ls hP hS hl => g (gd_some hX).1 r μ' (gd_some hX).2 H locs ls hP hS hl
theorem g_none : G K pc L st μ none := fun r μ' hX => by cases hX
theorem g_use {X' : Res} (h : ∀ y, X = some y → X' = some y) (g : G K pc L st μ X') : G K pc L st μ X := fun r μ' hX => g r μ' (h _ hX)
/-- what the tables say of a class -/
def Fx (ci : Nat) (C0 : String) (T : u_T) (N : Nat) (ty : Nat → FieldType) : Prop := ci < 10 ∧ cls10[ci]? = some (C0, T, N) ∧ (∀ w ∈ u_ws C0 T N, w ∈ gtbl) ∧ (∀ k, k < N → parseFieldDescriptor (T k).2.2.1 = some (ty k)) ∧ (∀ a, a < N → ∀ b, b < N → a ≠ b → (T a).2.1 ≠ (T b).2.1) ∧ nf ci = N
theorem fs_get {Ω : OT} {ci l : Nat} {μ : Mem} {k N : Nat} (hN : nf ci = N) (hk : k < N) : ((List.range (nf ci)).map (fv Ω ci l μ))[k]? = some (fv Ω ci l μ k) := by
  rw [List.getElem?_map, List.getElem?_range (by rw [hN]; exact hk)]
  rfl
theorem g_get (C : Cx K cc own nL d) {ci k l index N : Nat} {C0 : String} {T : u_T} {ty : Nat → FieldType} {v : Value} (F : Fx ci C0 T N ty) (ht : tg l = ci) (hk : k < N) (hv : fv (kO K) ci l μ k = v) (hT : (T k).1 = C0) (hlink : Cond.fieldLink own index C0 (T k).2.1 (T k).2.2.1 ∈ gtbl) (dg : decode cc pc = .ok (.getfield index, 3)) (g : G K (pc + 3) L (v :: st) μ X) : G K pc L (.ref (kf K l) :: st) μ X := by
  intro r μ' hX H locs ls hP hS hl
  obtain ⟨f1, f2, f3, f4, f5, f6⟩ := F
  have he := wl_get (kO K) μ (tg_ltO ht (by omega))
  rw [ent_obj (kO K) μ ht f1] at he
  refine va_get (ref := C0) C.x C.b C.t f3 C.o C.k hP l he f2 k hk (C.t _ hlink) (fun x hx => by rw [hT] at hx; exact hx) (v := v) ?_ dg (g r μ' hX H locs ls hP hS hl)
  rw [fs_get f6 hk, hv]
theorem g_put (C : Cx K cc own nL d) {ci k l index N : Nat} {C0 : String} {T : u_T} {ty : Nat → FieldType} {v : Value} {x : Int32} {kx : Mem → Res} (F : Fx ci C0 T N ty) (ht : tg l = ci) (hk : k < N) (hv : fv (kO K) ci l (mset μ l k x) k = v) (hT : (T k).1 = C0) (hfin : (T k).2.2.2 = false) (hn : narrow (ty k) v = v) (hfit : fits (ty k) v = true) (hlink : Cond.fieldLink own index C0 (T k).2.1 (T k).2.2.1 ∈ gtbl) (dg : decode cc pc = .ok (.putfield index, 3)) (g : ∀ μ1, G K (pc + 3) L st μ1 (kx μ1)) : G K pc L (v :: .ref (kf K l) :: st) μ (bnd (mset μ l k x) kx) := by
  intro r μ' hX H locs ls hP hS hl
  obtain ⟨f1, f2, f3, f4, f5, f6⟩ := F
  have he := wl_get (kO K) μ (tg_ltO ht (by omega))
  rw [ent_obj (kO K) μ ht f1] at he
  refine va_put (ref := C0) C.x C.b C.t f3 ty f4 f5 C.o C.k hP (wl_D C.p μ) hS l he f2 k hk (C.t _ hlink) (fun x hx => by rw [hT] at hx; exact hx) hfin (f4 k hk) hn hfit (by rw [List.length_map, List.length_range, f6]; exact hk) dg (fun H1 locs1 hP1 hD1 hS1 => ?_)
  rw [wl_setf ht f1 hv] at hP1
  exact g (mset μ l k x) r μ' hX H1 locs1 ls hP1 hS1 hl
theorem g_iald (C : Cx K cc own nL d) {l n : Nat} {i : Int32} (ht : tg l = 100 + n) (dg : decode cc pc = .ok (.iaload, 1)) (g : inb i n = true → G K (pc + 1) L (.int (μ l i.toNatClampNeg) :: st) μ X) : G K pc L (.int i :: .ref (kf K l) :: st) μ (gd (inb i n) X) := by
  intro r μ' hX H locs ls hP hS hl
  obtain ⟨h1, h2⟩ := gd_some hX
  have he := wl_get (kO K) μ (tg_ltI ht)
  rw [ent_int (kO K) μ ht] at he
  exact va_iald C.x C.b C.k hP l 0 he rfl (inb_vp h1) dg (g h1 r μ' h2 H locs ls hP hS hl)
theorem g_iast (C : Cx K cc own nL d) {l n : Nat} {i x : Int32} {kx : Mem → Res} (ht : tg l = 100 + n) (dg : decode cc pc = .ok (.iastore, 1)) (g : ∀ μ1, G K (pc + 1) L st μ1 (kx μ1)) : G K pc L (.int x :: .int i :: .ref (kf K l) :: st) μ (gd (inb i n) (bnd (mset μ l i.toNatClampNeg x) kx)) := by
  intro r μ' hX H locs ls hP hS hl
  obtain ⟨h1, h2⟩ := gd_some hX
  have he := wl_get (kO K) μ (tg_ltI ht)
  rw [ent_int (kO K) μ ht] at he
  refine va_iast C.x C.b C.k hP (wl_D C.p μ) hS l 0 he rfl (inb_vp h1) dg (fun H1 locs1 hP1 hD1 hS1 => ?_)
  rw [wl_seti ht] at hP1
  exact g _ r μ' h2 H1 locs1 ls hP1 hS1 hl
theorem g_aald (C : Cx K cc own nL d) {l t : Nat} {i : Int32} {E : String} (ht : tg l = t) (h1 : 10 ≤ t) (h2 : t < 100) (hty : (tys (kO K))[t - 9]? = some (oC (kO K) (t - 9), .object E)) (dg : decode cc pc = .ok (.aaload, 1)) (g : inb i (an t) = true → G K (pc + 1) L (.ref (kf K (l + aa t + ab t * i.toNatClampNeg)) :: st) μ X) : G K pc L (.int i :: .ref (kf K l) :: st) μ (gd (inb i (an t)) X) := by
  intro r μ' hX H locs ls hP hS hl
  obtain ⟨h3, h4⟩ := gd_some hX
  have he := wl_get (kO K) μ (tg_lt (l := l) (by
    intro q
    rw [ht] at q
    subst q
    simp [tys] at hty))
  rw [ent_ref (kO K) μ ht h1 h2] at he
  exact va_aldq C.x C.b C.k hP l (t - 9) he hty (inb_vp h3) dg (g h3 r μ' h4 H locs ls hP hS hl)
theorem g_alen (C : Cx K cc own nL d) {l n : Nat} {v : Int32} (ht : tg l = 100 + n) (hv : Int32.ofNat n = v) (dg : decode cc pc = .ok (.arraylength, 1)) (g : G K (pc + 1) L (.int v :: st) μ X) : G K pc L (.ref (kf K l) :: st) μ X := by
  intro r μ' hX H locs ls hP hS hl
  have he := wl_get (kO K) μ (tg_ltI ht)
  rw [ent_int (kO K) μ ht] at he
  exact va_alen C.x C.b C.k hP l 0 he rfl hv dg (g r μ' hX H locs ls hP hS hl)
theorem g_iret (C : Cx K cc own nL d) (Rr : Rx K (some .int)) {v : Int32} (dg : decode cc pc = .ok (.ireturn, 1)) : G K pc L [.int v] μ (some (v, μ)) := by
  intro r μ' hX H locs ls hP hS hl
  cases hX
  rw [show kQ K v μ = _ from Rr.1 v μ]
  exact W.iret C.x C.b Rr.2.1 (fun t ht _ => ⟨rfl, by rw [ht]; exact hP, hS.F ht⟩) (fun q hq => hS.2.2 q hq) dg Rr.2.2
theorem g_zret (C : Cx K cc own nL d) (Rr : Rx K (some .boolean)) {v : Int32} (dg : decode cc pc = .ok (.ireturn, 1)) : G K pc L [.int v] μ (gd (isb v) (some (v, μ))) := by
  intro r μ' hX H locs ls hP hS hl
  obtain ⟨h1, h2⟩ := gd_some hX
  cases h2
  rw [show kQ K v μ = _ from Rr.1 v μ]
  have hv : v = 0 ∨ v = 1 := of_decide_eq_true h1
  exact W.zret C.x C.b Rr.2.1 (by rcases hv with rfl | rfl <;> rfl) (fun t ht _ => ⟨rfl, by rw [ht]; exact hP, hS.F ht⟩) (fun q hq => hS.2.2 q hq) dg Rr.2.2
theorem g_vret (C : Cx K cc own nL d) (Rr : Rx K none) (dg : decode cc pc = .ok (.return_, 1)) : G K pc L [] μ (some (0, μ)) := by
  intro r μ' hX H locs ls hP hS hl
  cases hX
  rw [show kQ K 0 μ = _ from Rr.1 0 μ]
  exact W.vret C.x C.b Rr.2.1 (fun t ht _ => ⟨rfl, by rw [ht]; exact hP, hS.F ht⟩) (fun q hq => hS.2.2 q hq) dg Rr.2.2
end GROWS
end
section
/-! BASE 3: calls, the JDK's own, arrays that are only read, switches -/
def cal (x : Res) (k : Int32 → Mem → Res) : Res := x.bind (fun q => k q.1 q.2)
section GCALLS
variable {K : KT} {cc : ByteArray} {own : String} {nL d pc : Nat} {L : List (Nat × Value)} {st : List Value} {μ : Mem} {X : Res}
theorem W_callG {p : Program} {l : Launch} {e : Env} {R : Room} {s : State} {m : MethodId} {args : Array Value} {below : List Frame} {meth : Method} {c : Code} {H : Heap} {locs : List Loc} {cells slots : Nat} {Q : State → Prop} {g : JFrame} {rest : List Value} {Qa : State → Outcome → State → Prop} {free : Addr → Prop}
    (hr : CallRun p l e R s m args below meth c H locs cells slots 0 0 g rest Qa free) (kk : ∀ (v : Option Value) (st₀ t : State) (Lo : List Loc), st₀.heap = H → Qa st₀ (.returned v) t → (∀ q ∈ Lo, free q.base) → W p l e R s m args below meth c t.heap (locs ++ Lo) cells slots Q { g with pc := g.pc + 3, stack := v.toList ++ rest }) : W p l e R s m args below meth c H locs cells slots Q g := by
  intro T hT Z
  obtain ⟨v, st₀, t, T', Lo, h0, Z', hL, e1, hq, hgo⟩ := hr T hT Z
  obtain ⟨t2, a1, b1⟩ := kk v st₀ t Lo h0 hq hL T' e1 Z'
  exact ⟨t2, hgo t2 a1, b1⟩
theorem Pm_blind (Ω : OT) (av : List Value) (μ : Mem) : FrameBlind (Pm Ω av μ) := by
  intro a U g mk h
  obtain ⟨h1, h2, h3, h4, h5, h6, h7⟩ := h
  exact ⟨h1, h2, va_K.moved (u := U) (U := U.calling g mk a) (Vm.Alike.refl U.vm) h3, h4, STA.moved (u := U) (U := U.calling g mk a) (Vm.Alike.refl U.vm) h5, ⟨h6.1.same rfl, h6.2.same rfl⟩, h7.same rfl⟩
theorem Pm_at (C : Cx K cc own nL d) {H : Heap} {locs : List Loc} (hP : va_P (oD (kO K)) cls10 (wl (kO K) μ) H) (hS : va_S (AA (kO K)) (ks K).heap H locs) (av : List Value) : ∀ U : State, U.heap = H → (ks K).WarmedH U.vm → Pm (kO K) av μ av.toArray U := by
  intro U hU hW
  refine ⟨rfl, by rw [hU]; exact hP, va_K.moved hW.alike C.k, C.p, ?_, C.sb.warm hW, C.n.warm hW⟩
  rw [hU]
  exact (C.sa.kept hS.2.1).moved hW.alike
/-- what the tables say of a method that is called -/
def Cv (y : MethodName) (cb : ByteArray) (nb : Nat) (ret : Option FieldType) (n : Nat) : Prop := Cond.code y cb nb ret ∈ gtbl ∧ Cond.initialized y.cls ∈ gtbl ∧ (y.cls ≠ "java/lang/invoke/MethodHandle" ∧ y.cls ≠ "java/lang/invoke/VarHandle" ∧ (parseMethodDescriptor y.desc).map (fun d => d.parameters.length) = some n) ∧ nb ≤ 45
def CvV (y : MethodName) (cb : ByteArray) (nb : Nat) (ret : Option FieldType) (n ci : Nat) : Prop := Cv y cb nb ret n ∧ Cond.instanceMethod y ∈ gtbl ∧ Cond.selects y.cls y y ∈ gtbl ∧ ci < 10 ∧ (cls10[ci]?).map (fun q => q.1) = some y.cls
theorem cb_of (C : Cx K cc own nL d) {y : MethodName} {cb : ByteArray} {nb n db index : Nat} {ret : Option FieldType} (hV : Cv y cb nb ret n) (hlk : Cond.methodLink own index y ∈ gtbl) (hd : db + 1 ≤ d) : CallB (kR K) (ks K) (ka K) own index y cb nb ret (Cond.code y cb nb ret :: gtbl) (rmD db) 0 0 n := by
  obtain ⟨v1, v2, v3, v4⟩ := hV
  obtain ⟨r1, r2, -, -⟩ := C.r
  refine callB_of n C.t (g_goodIn v1) rfl rfl rfl (C.t _ v2) (C.t _ hlk) v3 ⟨?_, ?_⟩
  · show db + 1 ≤ _
    omega
  · show 8 + (nb + 11) + 64 * db ≤ _
    omega
theorem g_behind (C : Cx K cc own nL d) {ret : Option FieldType} {Xc : Res} {kx : Int32 → Mem → Res} {r1 : Int32} {μ1 : Mem} {H : Heap} {locs Lo : List Loc} {ls : Array Slot} {v : Option Value} {st₀ t : State} {a : Array Value} {r : Int32} {μ' : Mem} (hS : va_S (AA (kO K)) (ks K).heap H locs) (hl : lv_has ls (kc K).maxLocals L)
    (h0 : st₀.heap = H) (hq : Qm (kO K) ret r1 μ1 a st₀ (.returned v) t) (hLo : ∀ q ∈ Lo, AA (kO K) q.base) (h2 : kx r1 μ1 = some (r, μ')) (g : ∀ r1 μ1, G K (pc + 3) L ((rvv ret r1).toList ++ st) μ1 (kx r1 μ1)) : KW K t.heap (locs ++ Lo) (kQ K r μ') (F0 (km K) (pc + 3) ls (v.toList ++ st)) := by
  obtain ⟨hv, hP1, hF1, hF2⟩ := hq
  cases hv
  subst h0
  refine g r1 μ1 r μ' h2 t.heap (locs ++ Lo) ls hP1 ⟨Nat.le_trans hS.1 hF1, fun q h1 h3 => ?_, fun q hq => ?_⟩ hl
  · rw [hF2 q (Nat.lt_of_lt_of_le h1 hS.1) h3]
    exact hS.2.1 q h1 h3
  · rcases List.mem_append.mp hq with h | h
    · exact hS.2.2 q h
    · exact hLo q h
theorem g_callV (C : Cx K cc own nL d) {y : MethodName} {cb : ByteArray} {nb n db index ci b : Nat} {ret : Option FieldType} {As S : List Value} {Xc : Res} {kx : Int32 → Mem → Res} (hV : CvV y cb nb ret n ci) (hM : Ct (kO K) y cb nb ret db (.ref (kf K b) :: As) μ Xc) (hlk : Cond.methodLink own index y ∈ gtbl) (ht : tg b = ci) (hd : db + 1 ≤ d) (hn : As.length = n) (hst : S = As.reverse ++ .ref (kf K b) :: st) (hr : (st.map fun v => v.category).sum ≤ 8) (dg : decode cc pc = .ok (.invokevirtual index, 3))
    (g : ∀ r1 μ1, G K (pc + 3) L ((rvv ret r1).toList ++ st) μ1 (kx r1 μ1)) : G K pc L S μ (cal Xc kx) := by
  intro r μ' hX H locs ls hP hS hl
  obtain ⟨⟨r1, μ1⟩, h1, h2⟩ := Option.bind_eq_some_iff.mp hX
  obtain ⟨hV, hin, hsel, hci, hcl⟩ := hV
  have he := wl_get (kO K) μ (tg_ltO ht (by omega))
  rw [ent_obj (kO K) μ ht hci] at he
  obtain ⟨qc, hq1, hq2⟩ := Option.map_eq_some_iff.mp hcl
  have hrc := va_recv C.k hP hq1 he
  rw [hq2] at hrc
  have run := W.runV (l := (kO K).1) (e := ke K) (below := kb K) (meth := kt K) (locs := locs) (cells := kn K) (slots := kz K) (g := F0 (km K) pc ls S) ⟨C.x, C.b, rfl, C.o, C.t⟩ (hM r1 μ1 h1) ⟨cb_of C hV hlk hd, C.t _ hin, C.t _ hsel⟩ ⟨Pm_blind _ _ _, hrc, Pm_at C hP hS _⟩ rfl hn hl.1 hst (lv_room hr) dg ⟨C.r.2.2.1, C.r.2.2.2⟩
  exact W_callG run (fun v st₀ t Lo h0 hq hLo => g_behind C (Xc := Xc) hS hl h0 hq hLo h2 g)
theorem g_callS (C : Cx K cc own nL d) {y : MethodName} {cb : ByteArray} {nb n db index : Nat} {ret : Option FieldType} {As S : List Value} {Xc : Res} {kx : Int32 → Mem → Res} (hV : Cv y cb nb ret n) (hs : Cond.static y ∈ gtbl) (hM : Ct (kO K) y cb nb ret db As μ Xc) (hlk : Cond.methodLink own index y ∈ gtbl) (hd : db + 1 ≤ d) (hn : As.length = n) (hst : S = As.reverse ++ st) (hr : (st.map fun v => v.category).sum ≤ 8) (dg : decode cc pc = .ok (.invokestatic index, 3))
    (g : ∀ r1 μ1, G K (pc + 3) L ((rvv ret r1).toList ++ st) μ1 (kx r1 μ1)) : G K pc L S μ (cal Xc kx) := by
  intro r μ' hX H locs ls hP hS hl
  obtain ⟨⟨r1, μ1⟩, h1, h2⟩ := Option.bind_eq_some_iff.mp hX
  have run := W.runS (l := (kO K).1) (e := ke K) (below := kb K) (meth := kt K) (locs := locs) (cells := kn K) (slots := kz K) (g := F0 (km K) pc ls S) ⟨C.x, C.b, rfl, C.o, C.t⟩ (hM r1 μ1 h1) ⟨cb_of C hV hlk hd, C.t _ hs⟩ ⟨Pm_blind _ _ _, Pm_at C hP hS _⟩ rfl hn hl.1 hst (lv_room hr) dg ⟨C.r.2.2.1, C.r.2.2.2⟩
  exact W_callG run (fun v st₀ t Lo h0 hq hLo => g_behind C (Xc := Xc) hS hl h0 hq hLo h2 g)
theorem g_callN (C : Cx K cc own nL d) {y : MethodName} {cb : ByteArray} {nb n db index : Nat} {ret : Option FieldType} {As S : List Value} {Xc : Res} {kx : Int32 → Mem → Res} (hV : Cv y cb nb ret n) (hs : Cond.static y ∈ gtbl) (hM : Ct (kO K) y cb nb ret db As μ Xc) (hlk : (own, index, y, "LeftLacks") ∈ ntM) (hd : db + 1 ≤ d) (hn : As.length = n) (hst : S = As.reverse ++ st) (hr : (st.map fun v => v.category).sum ≤ 8) (dg : decode cc pc = .ok (.invokestatic index, 3))
    (g : ∀ r1 μ1, G K (pc + 3) L ((rvv ret r1).toList ++ st) μ1 (kx r1 μ1)) : G K pc L S μ (cal Xc kx) := by
  intro r μ' hX H locs ls hP hS hl
  obtain ⟨⟨r1, μ1⟩, h1, h2⟩ := Option.bind_eq_some_iff.mp hX
  obtain ⟨v1, v2, v3, v4⟩ := hV
  obtain ⟨r1', r2', -, -⟩ := C.r
  have cn : va_CN (kR K) (ks K) (ka K) own index y "LeftLacks" cb nb ret (Cond.code y cb nb ret :: gtbl) (rmD db) 0 0 n := va_cnB n C.t (g_goodIn v1) rfl rfl rfl (C.n.1 _ hlk) (C.t _ v2) v3 ⟨by show db + 1 ≤ _; omega, by show 8 + (nb + 11) + 64 * db ≤ _; omega⟩
  have run := va_runSN (l := (kO K).1) (e := ke K) (below := kb K) (meth := kt K) (locs := locs) (cells := kn K) (slots := kz K) (g := F0 (km K) pc ls S) ⟨C.x, C.b, rfl, C.o, C.t⟩ (hM r1 μ1 h1) ⟨cn, C.t _ hs, trivial⟩ ⟨Pm_blind _ _ _, Pm_at C hP hS _⟩ rfl hn hl.1 hst (lv_room hr) dg ⟨C.r.2.2.1, C.r.2.2.2⟩
  exact W_callG run.run (fun v st₀ t Lo h0 hq hLo => g_behind C (Xc := Xc) hS hl h0 hq hLo h2 g)
theorem g_mmin (C : Cx K cc own nL d) {index : Nat} {x y : Int32} (hlk : Cond.methodLink own index Lib.Math.min.name ∈ gtbl) (hs : Cond.static Lib.Math.min.name ∈ gtbl) (hi : Cond.initialized "java/lang/Math" ∈ gtbl) (hc : Cond.code Lib.Math.min.name Lib.Math.min.code 2 (some .int) ∈ gtbl) (hd : 1 ≤ d) (hr : (st.map fun v => v.category).sum ≤ 8) (dg : decode cc pc = .ok (.invokestatic index, 3)) (g : G K (pc + 3) L (.int (imin x y) :: st) μ X) : G K pc L (.int y :: .int x :: st) μ X := by
  intro r μ' hX H locs ls hP hS hl
  obtain ⟨r1, r2, r3, r4⟩ := C.r
  exact va_mmin C.x C.b hl.1.symm C.o (C.t _ hlk) (C.t _ hs) (C.t _ hi) (C.t _ hc) (by omega) (by omega) r3 r4 dg (g r μ' hX H locs ls hP hS hl)
theorem g_mmax (C : Cx K cc own nL d) {index : Nat} {x y : Int32} (hlk : Cond.methodLink own index Lib.Math.max.name ∈ gtbl) (hs : Cond.static Lib.Math.max.name ∈ gtbl) (hi : Cond.initialized "java/lang/Math" ∈ gtbl) (hc : Cond.code Lib.Math.max.name Lib.Math.max.code 2 (some .int) ∈ gtbl) (hd : 1 ≤ d) (hr : (st.map fun v => v.category).sum ≤ 8) (dg : decode cc pc = .ok (.invokestatic index, 3)) (g : G K (pc + 3) L (.int (imax x y) :: st) μ X) : G K pc L (.int y :: .int x :: st) μ X := by
  intro r μ' hX H locs ls hP hS hl
  obtain ⟨r1, r2, r3, r4⟩ := C.r
  exact va_mmax C.x C.b hl.1.symm C.o (C.t _ hlk) (C.t _ hs) (C.t _ hi) (C.t _ hc) (by omega) (by omega) r3 r4 dg (g r μ' hX H locs ls hP hS hl)
/-- System.arraycopy of ints -/
def mcpy (μ : Mem) (a sp b dp n : Nat) : Mem := fun l i => if l = b then va_cpy (fun j => μ a j) (fun j => μ b j) sp dp n i else μ l i
def cpok (sp dp n : Int32) (na nb : Nat) : Bool := decide (¬ sp < 0) && (decide (¬ dp < 0) && (decide (¬ n < 0) && (decide (sp.toNatClampNeg + n.toNatClampNeg ≤ na) && decide (dp.toNatClampNeg + n.toNatClampNeg ≤ nb))))
theorem wl_setc {Ω : OT} {μ : Mem} {a b nb : Nat} (h : tg b = 100 + nb) (sp dp n : Nat) : (wl Ω μ).set b (oF Ω b, .inl (oC Ω 0, nb, .inl (va_cpy (fun j => μ a j) (fun j => μ b j) sp dp n))) = wl Ω (mcpy μ a sp b dp n) := by
  refine wl_set (tg_ltI h) (fun k hk j => if_neg hk) ?_
  rw [ent_int Ω _ h]
  congr 4
  funext j
  exact if_pos rfl
theorem g_copy (C : Cx K cc own nL d) {index a b na nb : Nat} {sp dp n : Int32} {kx : Mem → Res} (hlk : Cond.methodLink own index arraycopyName ∈ gtbl) (hna : Cond.native arraycopyName ∈ gtbl) (hs : Cond.static arraycopyName ∈ gtbl) (hi : Cond.initialized "java/lang/System" ∈ gtbl) (ha : tg a = 100 + na) (hb : tg b = 100 + nb) (hd : 1 ≤ d) (hr : (st.map fun v => v.category).sum ≤ 8) (dg : decode cc pc = .ok (.invokestatic index, 3))
    (g : ∀ μ1, G K (pc + 3) L st μ1 (kx μ1)) : G K pc L (.int n :: .int dp :: .ref (kf K b) :: .int sp :: .ref (kf K a) :: st) μ (gd (cpok sp dp n na nb) (bnd (mcpy μ a sp.toNatClampNeg b dp.toNatClampNeg n.toNatClampNeg) kx)) := by
  intro r μ' hX H locs ls hP hS hl
  obtain ⟨r1, r2, r3, r4⟩ := C.r
  obtain ⟨hg, h2⟩ := gd_some hX
  unfold cpok at hg
  simp only [Bool.and_eq_true, decide_eq_true_eq] at hg
  obtain ⟨g1, g2, g3, g4, g5⟩ := hg
  have hea := wl_get (kO K) μ (tg_ltI ha)
  rw [ent_int (kO K) μ ha] at hea
  have heb := wl_get (kO K) μ (tg_ltI hb)
  rw [ent_int (kO K) μ hb] at heb
  have hw : nativeFrameWords "java/lang/System" "arraycopy" 5 + 11 ≤ 56 := by decide +kernel
  refine va_copyi C.x C.b hl.1.symm C.o (C.t _ hlk) (C.t _ hna) (C.t _ hs) (C.t _ hi) C.k hP (wl_D C.p μ) hS a b 0 0 hea heb rfl rfl rfl g1 g2 g3 g4 g5 (fun _ _ => rfl) (by omega) (by omega) dg (fun H1 locs1 hP1 hD1 hS1 => ?_)
  rw [wl_setc hb] at hP1
  exact g _ r μ' h2 H1 locs1 ls hP1 hS1 hl
/-- ABOVE and BODIES -/
theorem g_above (C : Cx K cc "LeftLacks" nL d) {index : Nat} (hlk : Cond.fieldLink "LeftLacks" index "LeftLacks" "ABOVE" "[I" ∈ gtbl) (dg : decode cc pc = .ok (.getstatic index, 3)) (g : G K (pc + 3) L (.ref (oS (kO K) 0) :: st) μ X) : G K pc L st μ X := fun r μ' hX H locs ls hP hS hl => va_gets C.x C.b C.sa.1 hS C.o (C.t _ hlk) (fun _ h => h) dg (g r μ' hX H locs ls hP hS hl)
theorem g_aboveN (C : Cx K cc "LeftLacks$Speaker" nL d) (dg : decode cc pc = .ok (.getstatic 51, 3)) (g : G K (pc + 3) L (.ref (oS (kO K) 0) :: st) μ X) : G K pc L st μ X := fun r μ' hX H locs ls hP hS hl => va_getsN C.x C.b C.sa.1 hS C.o ((C.n.2).use rfl) (fun _ h => h) dg (g r μ' hX H locs ls hP hS hl)
theorem g_bodies (C : Cx K cc "LeftLacks$Speaker" nL d) {index : Nat} (hlk : Cond.fieldLink "LeftLacks$Speaker" index "LeftLacks$Speaker" "BODIES" "[I" ∈ gtbl) (dg : decode cc pc = .ok (.getstatic index, 3)) (g : G K (pc + 3) L (.ref (oS (kO K) 1) :: st) μ X) : G K pc L st μ X := fun r μ' hX H locs ls hP hS hl => va_gets C.x C.b C.sa.2.2.1 hS C.o (C.t _ hlk) (fun _ h => h) dg (g r μ' hX H locs ls hP hS hl)
theorem g_iald0 (C : Cx K cc own nL d) {i : Int32} (dg : decode cc pc = .ok (.iaload, 1)) (g : inb i 7 = true → G K (pc + 1) L (.int (aboveF i.toNatClampNeg) :: st) μ X) : G K pc L (.int i :: .ref (oS (kO K) 0) :: st) μ (gd (inb i 7) X) := by
  intro r μ' hX H locs ls hP hS hl
  obtain ⟨h1, h2⟩ := gd_some hX
  exact va_ti C.x C.b C.sa.2.1 hS (inb_vp h1) rfl dg (g h1 r μ' h2 H locs ls hP hS hl)
theorem g_iald1 (C : Cx K cc own nL d) {i : Int32} (dg : decode cc pc = .ok (.iaload, 1)) (g : inb i 28 = true → G K (pc + 1) L (.int (bodiesF i.toNatClampNeg) :: st) μ X) : G K pc L (.int i :: .ref (oS (kO K) 1) :: st) μ (gd (inb i 28) X) := by
  intro r μ' hX H locs ls hP hS hl
  obtain ⟨h1, h2⟩ := gd_some hX
  exact va_ti C.x C.b C.sa.2.2.2.1 hS (inb_vp h1) rfl dg (g h1 r μ' h2 H locs ls hP hS hl)
/-- a switch, a case at a time -/
theorem g_tsw (C : Cx K cc own nL d) {x v : Int32} {dflt lo hi off : Int} {offs : Array Int} {len : Nat} (tgt : Nat) {X1 X2 : Res} (dg : decode cc pc = .ok (.tableswitch dflt lo hi offs, len)) (h1 : ¬ v.toInt < lo ∧ ¬ hi < v.toInt) (ho : offs[(v.toInt - lo).toNat]? = some off) (ht : (pc : Int) + off = (tgt : Int)) (g1 : G K tgt L st μ X1) (g2 : ¬ x = v → G K pc L (.int x :: st) μ X2) : G K pc L (.int x :: st) μ (if x = v then X1 else X2) := by
  intro r μ' hX H locs ls hP hS hl
  by_cases q : x = v
  · rw [if_pos q] at hX
    subst q
    exact lv_tableIn C.x C.b dg h1.1 h1.2 ho ht (g1 r μ' hX H locs ls hP hS hl)
  · rw [if_neg q] at hX
    exact g2 q r μ' hX H locs ls hP hS hl
theorem g_tswd (C : Cx K cc own nL d) {x : Int32} {dflt lo hi : Int} {offs : Array Int} {len : Nat} (tgt : Nat) (dg : decode cc pc = .ok (.tableswitch dflt lo hi offs, len)) (h : x.toInt < lo ∨ hi < x.toInt) (ht : (pc : Int) + dflt = (tgt : Int)) (g : G K tgt L st μ X) : G K pc L (.int x :: st) μ X := fun r μ' hX H locs ls hP hS hl => lv_tableOut C.x C.b dg h ht (g r μ' hX H locs ls hP hS hl)
theorem sw_out {x : Int32} {lo hi : Int} (vs : List Int32) (h : ∀ v ∈ vs, ¬ x = v) (hv : ∀ i : Int, lo ≤ i → i ≤ hi → ∃ v ∈ vs, v.toInt = i) : x.toInt < lo ∨ hi < x.toInt := by
  by_cases h1 : x.toInt < lo
  · exact Or.inl h1
  · by_cases h2 : hi < x.toInt
    · exact Or.inr h2
    · obtain ⟨v, hm, he⟩ := hv x.toInt (by omega) (by omega)
      exact absurd (Int32.toInt_inj.mp he).symm (h v hm)
theorem g_lsw (C : Cx K cc own nL d) {x v : Int32} {dflt off : Int} {ps : Array (Int × Int)} {len : Nat} (tgt : Nat) {X1 X2 : Res} (dg : decode cc pc = .ok (.lookupswitch dflt ps, len)) (hp : (ps.toList.zip (ps.toList.drop 1)).all (fun (a, next) => a.1 < next.1) = true) (ho : Op.lookupswitch.offset ps.toList dflt v.toInt = off) (ht : (pc : Int) + off = (tgt : Int)) (g1 : G K tgt L st μ X1) (g2 : ¬ x = v → G K pc L (.int x :: st) μ X2) : G K pc L (.int x :: st) μ (if x = v then X1 else X2) := by
  intro r μ' hX H locs ls hP hS hl
  by_cases q : x = v
  · rw [if_pos q] at hX
    subst q
    exact lv_lookup C.x C.b dg hp ho ht (g1 r μ' hX H locs ls hP hS hl)
  · rw [if_neg q] at hX
    exact g2 q r μ' hX H locs ls hP hS hl
theorem lsw_out {x : Int32} {d : Int} : ∀ (ps : List (Int × Int)) (vs : List Int32), vs.map (fun v => v.toInt) = ps.map (fun q => q.1) → (∀ v ∈ vs, ¬ x = v) → Op.lookupswitch.offset ps d x.toInt = d
  | [], _, _, _ => rfl
  | (a, o) :: r, vs, hv, h => by
    cases vs with
    | nil => cases hv
    | cons v vs =>
      have h1 : v.toInt = a := (List.cons.inj hv).1
      rw [lv_osw (h v List.mem_cons_self) h1]
      exact lsw_out r vs (List.cons.inj hv).2 (fun w hw => h w (List.mem_cons_of_mem _ hw))
theorem g_lswd (C : Cx K cc own nL d) {x : Int32} {dflt : Int} {ps : Array (Int × Int)} {len : Nat} (tgt : Nat) (vs : List Int32) (dg : decode cc pc = .ok (.lookupswitch dflt ps, len)) (hp : (ps.toList.zip (ps.toList.drop 1)).all (fun (a, next) => a.1 < next.1) = true) (hv : vs.map (fun v => v.toInt) = ps.toList.map (fun q => q.1)) (h : ∀ v ∈ vs, ¬ x = v) (ht : (pc : Int) + dflt = (tgt : Int)) (g : G K tgt L st μ X) : G K pc L (.int x :: st) μ X := fun r μ' hX H locs ls hP hS hl => lv_lookup C.x C.b dg hp (lsw_out ps.toList vs hv h) ht (g r μ' hX H locs ls hP hS hl)
/-- the two texts -/
theorem g_str (C : Cx K cc "LeftLacks$Reader" nL d) {index k : Nat} (hk : (index = 18 ∧ k = 2) ∨ (index = 44 ∧ k = 3)) (dg : decode cc pc = .ok (.ldc index, 2)) (g : G K (pc + 2) L (.ref (oS (kO K) k) :: st) μ X) : G K pc L st μ X := by
  intro r μ' hX H locs ls hP hS hl
  rcases hk with ⟨rfl, rfl⟩ | ⟨rfl, rfl⟩
  · exact va_ldcS C.x C.b C.o C.sb.1 dg (g r μ' hX H locs ls hP hS hl)
  · exact va_ldcS C.x C.b C.o C.sb.2 dg (g r μ' hX H locs ls hP hS hl)
theorem g_callVi (C : Cx K cc own nL d) {y : MethodName} {cb : ByteArray} {nb n db index ci b : Nat} {ty : FieldType} {As S : List Value} {Xc : Res} {kx : Int32 → Mem → Res} (hV : CvV y cb nb (some ty) n ci) (hM : Ct (kO K) y cb nb (some ty) db (.ref (kf K b) :: As) μ Xc) (hlk : Cond.methodLink own index y ∈ gtbl) (ht : tg b = ci) (hd : db + 1 ≤ d) (hn : As.length = n) (hst : S = As.reverse ++ .ref (kf K b) :: st) (hr : (st.map fun v => v.category).sum ≤ 8) (dg : decode cc pc = .ok (.invokevirtual index, 3))
    (g : ∀ r1 μ1, G K (pc + 3) L (.int r1 :: st) μ1 (kx r1 μ1)) : G K pc L S μ (cal Xc kx) := g_callV C hV hM hlk ht hd hn hst hr dg g
theorem g_callVv (C : Cx K cc own nL d) {y : MethodName} {cb : ByteArray} {nb n db index ci b : Nat} {As S : List Value} {Xc : Res} {kx : Int32 → Mem → Res} (hV : CvV y cb nb none n ci) (hM : Ct (kO K) y cb nb none db (.ref (kf K b) :: As) μ Xc) (hlk : Cond.methodLink own index y ∈ gtbl) (ht : tg b = ci) (hd : db + 1 ≤ d) (hn : As.length = n) (hst : S = As.reverse ++ .ref (kf K b) :: st) (hr : (st.map fun v => v.category).sum ≤ 8) (dg : decode cc pc = .ok (.invokevirtual index, 3))
    (g : ∀ r1 μ1, G K (pc + 3) L st μ1 (kx r1 μ1)) : G K pc L S μ (cal Xc kx) := g_callV C hV hM hlk ht hd hn hst hr dg g
theorem g_callSi (C : Cx K cc own nL d) {y : MethodName} {cb : ByteArray} {nb n db index : Nat} {ty : FieldType} {As S : List Value} {Xc : Res} {kx : Int32 → Mem → Res} (hV : Cv y cb nb (some ty) n) (hs : Cond.static y ∈ gtbl) (hM : Ct (kO K) y cb nb (some ty) db As μ Xc) (hlk : Cond.methodLink own index y ∈ gtbl) (hd : db + 1 ≤ d) (hn : As.length = n) (hst : S = As.reverse ++ st) (hr : (st.map fun v => v.category).sum ≤ 8) (dg : decode cc pc = .ok (.invokestatic index, 3))
    (g : ∀ r1 μ1, G K (pc + 3) L (.int r1 :: st) μ1 (kx r1 μ1)) : G K pc L S μ (cal Xc kx) := g_callS C hV hs hM hlk hd hn hst hr dg g
theorem g_callSv (C : Cx K cc own nL d) {y : MethodName} {cb : ByteArray} {nb n db index : Nat} {As S : List Value} {Xc : Res} {kx : Int32 → Mem → Res} (hV : Cv y cb nb none n) (hs : Cond.static y ∈ gtbl) (hM : Ct (kO K) y cb nb none db As μ Xc) (hlk : Cond.methodLink own index y ∈ gtbl) (hd : db + 1 ≤ d) (hn : As.length = n) (hst : S = As.reverse ++ st) (hr : (st.map fun v => v.category).sum ≤ 8) (dg : decode cc pc = .ok (.invokestatic index, 3))
    (g : ∀ r1 μ1, G K (pc + 3) L st μ1 (kx r1 μ1)) : G K pc L S μ (cal Xc kx) := g_callS C hV hs hM hlk hd hn hst hr dg g
theorem g_callNi (C : Cx K cc own nL d) {y : MethodName} {cb : ByteArray} {nb n db index : Nat} {ty : FieldType} {As S : List Value} {Xc : Res} {kx : Int32 → Mem → Res} (hV : Cv y cb nb (some ty) n) (hs : Cond.static y ∈ gtbl) (hM : Ct (kO K) y cb nb (some ty) db As μ Xc) (hlk : (own, index, y, "LeftLacks") ∈ ntM) (hd : db + 1 ≤ d) (hn : As.length = n) (hst : S = As.reverse ++ st) (hr : (st.map fun v => v.category).sum ≤ 8) (dg : decode cc pc = .ok (.invokestatic index, 3))
    (g : ∀ r1 μ1, G K (pc + 3) L (.int r1 :: st) μ1 (kx r1 μ1)) : G K pc L S μ (cal Xc kx) := g_callN C hV hs hM hlk hd hn hst hr dg g
/-- arrays of objects, by kind -/
theorem g_aald10 (C : Cx K cc own nL d) {l : Nat} {i : Int32} (ht : tg l = 10) (dg : decode cc pc = .ok (.aaload, 1)) (g : inb i 6 = true → G K (pc + 1) L (.ref (kf K (l + 5 + 3 * i.toNatClampNeg)) :: st) μ X) : G K pc L (.int i :: .ref (kf K l) :: st) μ (gd (inb i 6) X) := g_aald (t := 10) C ht (by decide) (by decide) rfl dg g
theorem g_aald11 (C : Cx K cc own nL d) {l : Nat} {i : Int32} (ht : tg l = 11) (dg : decode cc pc = .ok (.aaload, 1)) (g : inb i 10 = true → G K (pc + 1) L (.ref (kf K (l + 22 + 1 * i.toNatClampNeg)) :: st) μ X) : G K pc L (.int i :: .ref (kf K l) :: st) μ (gd (inb i 10) X) := g_aald (t := 11) C ht (by decide) (by decide) rfl dg g
theorem g_aald12 (C : Cx K cc own nL d) {l : Nat} {i : Int32} (ht : tg l = 12) (dg : decode cc pc = .ok (.aaload, 1)) (g : inb i 2 = true → G K (pc + 1) L (.ref (kf K (l + 31 + 3 * i.toNatClampNeg)) :: st) μ X) : G K pc L (.int i :: .ref (kf K l) :: st) μ (gd (inb i 2) X) := g_aald (t := 12) C ht (by decide) (by decide) rfl dg g
theorem g_aald13 (C : Cx K cc own nL d) {l : Nat} {i : Int32} (ht : tg l = 13) (dg : decode cc pc = .ok (.aaload, 1)) (g : inb i 4 = true → G K (pc + 1) L (.ref (kf K (l + 1 + 2 * i.toNatClampNeg)) :: st) μ X) : G K pc L (.int i :: .ref (kf K l) :: st) μ (gd (inb i 4) X) := g_aald (t := 13) C ht (by decide) (by decide) rfl dg g
theorem inb_lt {i : Int32} {n : Nat} (h : inb i n = true) : i.toNatClampNeg < n := Nat.not_le.mp fun q => inb_vp h (Or.inr q)
theorem ca_all : ∀ l, l < 155 → (tg l = 10 → ∀ i, i < 6 → tg (l + 5 + 3 * i) = 5) ∧ (tg l = 11 → ∀ i, i < 10 → tg (l + 22 + 1 * i) = 0) ∧ (tg l = 12 → ∀ i, i < 2 → tg (l + 31 + 3 * i) = 1) ∧ (tg l = 13 → ∀ i, i < 4 → tg (l + 1 + 2 * i) = 4) := by decide +kernel
theorem ca_10 {l : Nat} {i : Int32} (h : tg l = 10) (hi : inb i 6 = true) : tg (l + 5 + 3 * i.toNatClampNeg) = 5 := (ca_all l (tg_ltO h (by decide))).1 h _ (inb_lt hi)
theorem ca_11 {l : Nat} {i : Int32} (h : tg l = 11) (hi : inb i 10 = true) : tg (l + 22 + 1 * i.toNatClampNeg) = 0 := (ca_all l (tg_ltO h (by decide))).2.1 h _ (inb_lt hi)
theorem ca_12 {l : Nat} {i : Int32} (h : tg l = 12) (hi : inb i 2 = true) : tg (l + 31 + 3 * i.toNatClampNeg) = 1 := (ca_all l (tg_ltO h (by decide))).2.2.1 h _ (inb_lt hi)
theorem ca_13 {l : Nat} {i : Int32} (h : tg l = 13) (hi : inb i 4 = true) : tg (l + 1 + 2 * i.toNatClampNeg) = 4 := (ca_all l (tg_ltO h (by decide))).2.2.2 h _ (inb_lt hi)
theorem g_putZ (C : Cx K cc own nL d) {ci k l index N : Nat} {C0 : String} {T : u_T} {ty : Nat → FieldType} {x : Int32} {kx : Mem → Res} (F : Fx ci C0 T N ty) (ht : tg l = ci) (hk : k < N) (hf : fk ci k = 0) (hT : (T k).1 = C0) (hfin : (T k).2.2.2 = false) (hy : ty k = .boolean) (hlink : Cond.fieldLink own index C0 (T k).2.1 (T k).2.2.1 ∈ gtbl) (dg : decode cc pc = .ok (.putfield index, 3)) (g : ∀ μ1, G K (pc + 3) L st μ1 (kx μ1)) : G K pc L (.int x :: .ref (kf K l) :: st) μ (gd (isb x) (bnd (mset μ l k x) kx)) := by
  refine g_gd (fun hb => ?_)
  have hx : x = 0 ∨ x = 1 := of_decide_eq_true hb
  refine g_put C F ht hk ?_ hT hfin ?_ ?_ hlink dg g
  · unfold fv
    rw [hf]
    show Value.int _ = _
    unfold mset
    rw [if_pos ⟨rfl, rfl⟩]
  · rw [hy]
    rcases hx with rfl | rfl <;> rfl
  · rw [hy]
    rcases hx with rfl | rfl <;> rfl
theorem fv_int {Ω : OT} {ci l k : Nat} {μ : Mem} (hf : fk ci k = 0) : fv Ω ci l μ k = .int (μ l k) := by
  unfold fv
  rw [hf]
theorem fv_ref {Ω : OT} {ci l k n : Nat} {μ : Mem} (hf : fk ci k = n + 2) : fv Ω ci l μ k = .ref (oF Ω (l + n)) := by
  unfold fv
  rw [hf]
theorem g_geti (C : Cx K cc own nL d) {ci l index N : Nat} {C0 : String} {T : u_T} {ty : Nat → FieldType} (k : Nat) (F : Fx ci C0 T N ty) (ht : tg l = ci) (hk : k < N) (hf : fk ci k = 0) (hT : (T k).1 = C0) (hlink : Cond.fieldLink own index C0 (T k).2.1 (T k).2.2.1 ∈ gtbl) (dg : decode cc pc = .ok (.getfield index, 3)) (g : G K (pc + 3) L (.int (μ l k) :: st) μ X) : G K pc L (.ref (kf K l) :: st) μ X := g_get C F ht hk (fv_int hf) hT hlink dg g
theorem g_getr (C : Cx K cc own nL d) {ci l index N : Nat} {C0 : String} {T : u_T} {ty : Nat → FieldType} (k n : Nat) (F : Fx ci C0 T N ty) (ht : tg l = ci) (hk : k < N) (hf : fk ci k = n + 2) (hT : (T k).1 = C0) (hlink : Cond.fieldLink own index C0 (T k).2.1 (T k).2.2.1 ∈ gtbl) (dg : decode cc pc = .ok (.getfield index, 3)) (g : G K (pc + 3) L (.ref (kf K (l + n)) :: st) μ X) : G K pc L (.ref (kf K l) :: st) μ X := g_get C F ht hk (fv_ref hf) hT hlink dg g
theorem mset_self {μ : Mem} {l k : Nat} {x : Int32} : mset μ l k x l k = x := if_pos ⟨rfl, rfl⟩
theorem g_puti (C : Cx K cc own nL d) {ci l index N : Nat} {C0 : String} {T : u_T} {ty : Nat → FieldType} {x : Int32} {kx : Mem → Res} (k : Nat) (F : Fx ci C0 T N ty) (ht : tg l = ci) (hk : k < N) (hf : fk ci k = 0) (hT : (T k).1 = C0) (hfin : (T k).2.2.2 = false) (hy : ty k = .int) (hlink : Cond.fieldLink own index C0 (T k).2.1 (T k).2.2.1 ∈ gtbl) (dg : decode cc pc = .ok (.putfield index, 3)) (g : ∀ μ1, G K (pc + 3) L st μ1 (kx μ1)) : G K pc L (.int x :: .ref (kf K l) :: st) μ (bnd (mset μ l k x) kx) :=
  g_put C F ht hk (by rw [fv_int hf, mset_self]) hT hfin (by rw [hy]; rfl) (by rw [hy]; rfl) hlink dg g
theorem g_ldcw (C : Cx K cc own nL d) {index : Nat} {v : Int32} (hw : Cond.constant own index v ∈ gtbl) (dg : decode cc pc = .ok (.ldc_w index, 3)) (g : G K (pc + 3) L (.int v :: st) μ X) : G K pc L st μ X := fun r μ' hX H locs ls hP hS hl => lv_ldcw C.x C.b C.o (C.t _ hw) dg (g r μ' hX H locs ls hP hS hl)
end GCALLS
end
