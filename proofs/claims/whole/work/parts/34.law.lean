/-! THE LAW'S LOOP -/
def LX (K : KT) (b sn : Nat) (xs : Nat → Int32) : Prop := va_X b sn xs (ks K) (ks K).heap ∧ b < (ks K).heap.size ∧ ¬ AA (kO K) b
section LAWR
variable {K : KT} {cc : ByteArray} {own : String} {nL d pc : Nat} {L : List (Nat × Value)} {st : List Value} {μ : Mem} {X : Res} {b sn : Nat} {xs : Nat → Int32}
theorem g_sld (C : Cx K cc own nL d) (hb : LX K b sn xs) {i : Int32} (dg : decode cc pc = .ok (.iaload, 1)) (g : inb i sn = true → G K (pc + 1) L (.int (xs i.toNatClampNeg) :: st) μ X) : G K pc L (.int i :: .ref b :: st) μ (gd (inb i sn) X) := by
  intro r μ' hX H locs ls hP hS hl
  obtain ⟨h1, h2⟩ := gd_some hX
  exact va_sld C.x C.b hb.1 hb.2.1 hb.2.2 hS (inb_vp h1) dg (g h1 r μ' h2 H locs ls hP hS hl)
theorem g_slen (C : Cx K cc own nL d) (hb : LX K b sn xs) (dg : decode cc pc = .ok (.arraylength, 1)) (g : G K (pc + 1) L (.int (Int32.ofNat sn) :: st) μ X) : G K pc L (.ref b :: st) μ X := by
  intro r μ' hX H locs ls hP hS hl
  exact va_slen C.x C.b hb.1 hb.2.1 hb.2.2 hS dg (g r μ' hX H locs ls hP hS hl)
end LAWR
theorem q_334 : (Jvm.Cond.methodLink "LeftLacksLaw" (13 : Nat) ({ cls := "LeftLacks", name := "cost", desc := "(II)I" } : Jvm.MethodName)) ∈ gtbl := gm 334 (by decide +kernel) rfl
theorem q_349 : (Jvm.Cond.methodLink "LeftLacksLaw" (18 : Nat) ({ cls := "LeftLacks", name := "rule", desc := "(II)I" } : Jvm.MethodName)) ∈ gtbl := gm 349 (by decide +kernel) rfl
theorem q_353 : (Jvm.Cond.methodLink "LeftLacksLaw" (22 : Nat) ({ cls := "LeftLacks", name := "shop", desc := "(I)I" } : Jvm.MethodName)) ∈ gtbl := gm 353 (by decide +kernel) rfl
theorem q_362 : (Jvm.Cond.methodLink "LeftLacksLaw" (27 : Nat) ({ cls := "LeftLacks", name := "shopIs", desc := "(II)I" } : Jvm.MethodName)) ∈ gtbl := gm 362 (by decide +kernel) rfl
theorem q_391 : (Jvm.Cond.methodLink "LeftLacksLaw" (31 : Nat) ({ cls := "LeftLacks", name := "as", desc := "(II)I" } : Jvm.MethodName)) ∈ gtbl := gm 391 (by decide +kernel) rfl
theorem q_400 : (Jvm.Cond.methodLink "LeftLacksLaw" (35 : Nat) ({ cls := "LeftLacks", name := "set", desc := "(III)I" } : Jvm.MethodName)) ∈ gtbl := gm 400 (by decide +kernel) rfl
theorem q_412 : (Jvm.Cond.methodLink "LeftLacksLaw" (40 : Nat) ({ cls := "LeftLacks", name := "price", desc := "(II)I" } : Jvm.MethodName)) ∈ gtbl := gm 412 (by decide +kernel) rfl
theorem q_437 : (Jvm.Cond.methodLink "LeftLacksLaw" (44 : Nat) ({ cls := "LeftLacks", name := "fills", desc := "(II)I" } : Jvm.MethodName)) ∈ gtbl := gm 437 (by decide +kernel) rfl
theorem q_448 : (Jvm.Cond.methodLink "LeftLacksLaw" (48 : Nat) ({ cls := "LeftLacks", name := "customer", desc := "(III)I" } : Jvm.MethodName)) ∈ gtbl := gm 448 (by decide +kernel) rfl
theorem q_459 : (Jvm.Cond.methodLink "LeftLacksLaw" (52 : Nat) ({ cls := "LeftLacks", name := "customerIs", desc := "(II)I" } : Jvm.MethodName)) ∈ gtbl := gm 459 (by decide +kernel) rfl
theorem q_467 : (Jvm.Cond.methodLink "LeftLacksLaw" (56 : Nat) ({ cls := "LeftLacks", name := "leave", desc := "()I" } : Jvm.MethodName)) ∈ gtbl := gm 467 (by decide +kernel) rfl
theorem q_471 : (Jvm.Cond.methodLink "LeftLacksLaw" (63 : Nat) ({ cls := "LeftLacks", name := "feed", desc := "(JI)I" } : Jvm.MethodName)) ∈ gtbl := gm 471 (by decide +kernel) rfl
theorem q_475 : (Jvm.Cond.methodLink "LeftLacksLaw" (68 : Nat) ({ cls := "LeftLacks", name := "text", desc := "(I)I" } : Jvm.MethodName)) ∈ gtbl := gm 475 (by decide +kernel) rfl
theorem q_618 : (Jvm.Cond.methodLink "LeftLacksLaw" (72 : Nat) ({ cls := "LeftLacks", name := "untell", desc := "(I)I" } : Jvm.MethodName)) ∈ gtbl := gm 618 (by decide +kernel) rfl
theorem q_623 : (Jvm.Cond.methodLink "LeftLacksLaw" (76 : Nat) ({ cls := "LeftLacks", name := "morning", desc := "()I" } : Jvm.MethodName)) ∈ gtbl := gm 623 (by decide +kernel) rfl
theorem q_665 : (Jvm.Cond.methodLink "LeftLacksLaw" (80 : Nat) ({ cls := "LeftLacks", name := "visit", desc := "(I)I" } : Jvm.MethodName)) ∈ gtbl := gm 665 (by decide +kernel) rfl
theorem q_677 : (Jvm.Cond.methodLink "LeftLacksLaw" (84 : Nat) ({ cls := "LeftLacks", name := "days", desc := "(I)I" } : Jvm.MethodName)) ∈ gtbl := gm 677 (by decide +kernel) rfl
theorem q_702 : (Jvm.Cond.methodLink "LeftLacksLaw" (88 : Nat) ({ cls := "LeftLacks", name := "loose", desc := "(I)I" } : Jvm.MethodName)) ∈ gtbl := gm 702 (by decide +kernel) rfl
theorem q_706 : (Jvm.Cond.methodLink "LeftLacksLaw" (92 : Nat) ({ cls := "LeftLacks", name := "seed", desc := "(I)I" } : Jvm.MethodName)) ∈ gtbl := gm 706 (by decide +kernel) rfl
theorem q_710 : (Jvm.Cond.methodLink "LeftLacksLaw" (96 : Nat) ({ cls := "LeftLacks", name := "then", desc := "(III)I" } : Jvm.MethodName)) ∈ gtbl := gm 710 (by decide +kernel) rfl
theorem q_729 : (Jvm.Cond.methodLink "LeftLacksLaw" (100 : Nat) ({ cls := "LeftLacks", name := "keep", desc := "(III)I" } : Jvm.MethodName)) ∈ gtbl := gm 729 (by decide +kernel) rfl
theorem q_734 : (Jvm.Cond.methodLink "LeftLacksLaw" (104 : Nat) ({ cls := "LeftLacks", name := "range", desc := "(II)I" } : Jvm.MethodName)) ∈ gtbl := gm 734 (by decide +kernel) rfl
theorem q_743 : (Jvm.Cond.methodLink "LeftLacksLaw" (108 : Nat) ({ cls := "LeftLacks", name := "turn", desc := "(II)I" } : Jvm.MethodName)) ∈ gtbl := gm 743 (by decide +kernel) rfl
theorem q_751 : (Jvm.Cond.methodLink "LeftLacksLaw" (112 : Nat) ({ cls := "LeftLacks", name := "out", desc := "(II)I" } : Jvm.MethodName)) ∈ gtbl := gm 751 (by decide +kernel) rfl
theorem q_761 : (Jvm.Cond.methodLink "LeftLacksLaw" (116 : Nat) ({ cls := "LeftLacks", name := "joined", desc := "(II)I" } : Jvm.MethodName)) ∈ gtbl := gm 761 (by decide +kernel) rfl
theorem q_775 : (Jvm.Cond.methodLink "LeftLacksLaw" (120 : Nat) ({ cls := "LeftLacks", name := "walk", desc := "(I)I" } : Jvm.MethodName)) ∈ gtbl := gm 775 (by decide +kernel) rfl
theorem q_781 : (Jvm.Cond.methodLink "LeftLacksLaw" (124 : Nat) ({ cls := "LeftLacks", name := "voice", desc := "(III)I" } : Jvm.MethodName)) ∈ gtbl := gm 781 (by decide +kernel) rfl
theorem q_812 : (Jvm.Cond.methodLink "LeftLacksLaw" (128 : Nat) ({ cls := "LeftLacks", name := "body", desc := "(I)I" } : Jvm.MethodName)) ∈ gtbl := gm 812 (by decide +kernel) rfl
theorem q_816 : (Jvm.Cond.methodLink "LeftLacksLaw" (132 : Nat) ({ cls := "LeftLacks", name := "sheet", desc := "(III)I" } : Jvm.MethodName)) ∈ gtbl := gm 816 (by decide +kernel) rfl
theorem q_828 : (Jvm.Cond.methodLink "LeftLacksLaw" (136 : Nat) ({ cls := "LeftLacks", name := "put", desc := "(III)I" } : Jvm.MethodName)) ∈ gtbl := gm 828 (by decide +kernel) rfl
theorem q_840 : (Jvm.Cond.methodLink "LeftLacksLaw" (140 : Nat) ({ cls := "LeftLacks", name := "move", desc := "(IIIII)I" } : Jvm.MethodName)) ∈ gtbl := gm 840 (by decide +kernel) rfl
theorem q_849 : (Jvm.Cond.methodLink "LeftLacksLaw" (145 : Nat) ({ cls := "LeftLacks", name := "customers", desc := "(I)I" } : Jvm.MethodName)) ∈ gtbl := gm 849 (by decide +kernel) rfl
theorem q_857 : (Jvm.Cond.methodLink "LeftLacksLaw" (149 : Nat) ({ cls := "LeftLacks", name := "judge", desc := "(I)I" } : Jvm.MethodName)) ∈ gtbl := gm 857 (by decide +kernel) rfl
theorem q_862 : (Jvm.Cond.methodLink "LeftLacksLaw" (153 : Nat) ({ cls := "LeftLacks", name := "came", desc := "(III)I" } : Jvm.MethodName)) ∈ gtbl := gm 862 (by decide +kernel) rfl
theorem q_885 : (Jvm.Cond.methodLink "LeftLacksLaw" (157 : Nat) ({ cls := "LeftLacks", name := "image", desc := "()I" } : Jvm.MethodName)) ∈ gtbl := gm 885 (by decide +kernel) rfl
theorem q_889 : (Jvm.Cond.methodLink "LeftLacksLaw" (161 : Nat) ({ cls := "LeftLacks", name := "restore", desc := "()I" } : Jvm.MethodName)) ∈ gtbl := gm 889 (by decide +kernel) rfl
theorem q_893 : (Jvm.Cond.methodLink "LeftLacksLaw" (165 : Nat) ({ cls := "LeftLacks", name := "tell", desc := "(I)I" } : Jvm.MethodName)) ∈ gtbl := gm 893 (by decide +kernel) rfl
theorem q_897 : (Jvm.Cond.methodLink "LeftLacksLaw" (169 : Nat) ({ cls := "LeftLacks", name := "check", desc := "()I" } : Jvm.MethodName)) ∈ gtbl := gm 897 (by decide +kernel) rfl
theorem q_901 : (Jvm.Cond.methodLink "LeftLacksLaw" (173 : Nat) ({ cls := "LeftLacks", name := "count", desc := "(I)I" } : Jvm.MethodName)) ∈ gtbl := gm 901 (by decide +kernel) rfl
theorem q_909 : (Jvm.Cond.methodLink "LeftLacksLaw" (177 : Nat) ({ cls := "LeftLacks", name := "told", desc := "(I)I" } : Jvm.MethodName)) ∈ gtbl := gm 909 (by decide +kernel) rfl
theorem q_980 : (Jvm.Cond.methodLink "LeftLacksLaw" (17 : Nat) ({ cls := "LeftLacksModel", name := "cost", desc := "(II)I" } : Jvm.MethodName)) ∈ gtbl := gm 980 (by decide +kernel) rfl
theorem q_995 : (Jvm.Cond.methodLink "LeftLacksLaw" (21 : Nat) ({ cls := "LeftLacksModel", name := "rule", desc := "(II)I" } : Jvm.MethodName)) ∈ gtbl := gm 995 (by decide +kernel) rfl
theorem q_999 : (Jvm.Cond.methodLink "LeftLacksLaw" (26 : Nat) ({ cls := "LeftLacksModel", name := "shop", desc := "(I)I" } : Jvm.MethodName)) ∈ gtbl := gm 999 (by decide +kernel) rfl
theorem q_1007 : (Jvm.Cond.methodLink "LeftLacksLaw" (30 : Nat) ({ cls := "LeftLacksModel", name := "shopIs", desc := "(II)I" } : Jvm.MethodName)) ∈ gtbl := gm 1007 (by decide +kernel) rfl
theorem q_1039 : (Jvm.Cond.methodLink "LeftLacksLaw" (34 : Nat) ({ cls := "LeftLacksModel", name := "as", desc := "(II)I" } : Jvm.MethodName)) ∈ gtbl := gm 1039 (by decide +kernel) rfl
theorem q_1046 : (Jvm.Cond.methodLink "LeftLacksLaw" (39 : Nat) ({ cls := "LeftLacksModel", name := "set", desc := "(III)I" } : Jvm.MethodName)) ∈ gtbl := gm 1046 (by decide +kernel) rfl
theorem q_1050 : (Jvm.Cond.methodLink "LeftLacksLaw" (51 : Nat) ({ cls := "LeftLacksModel", name := "customer", desc := "(III)I" } : Jvm.MethodName)) ∈ gtbl := gm 1050 (by decide +kernel) rfl
theorem q_1061 : (Jvm.Cond.methodLink "LeftLacksLaw" (55 : Nat) ({ cls := "LeftLacksModel", name := "customerIs", desc := "(II)I" } : Jvm.MethodName)) ∈ gtbl := gm 1061 (by decide +kernel) rfl
theorem q_1073 : (Jvm.Cond.methodLink "LeftLacksLaw" (60 : Nat) ({ cls := "LeftLacksModel", name := "leave", desc := "()I" } : Jvm.MethodName)) ∈ gtbl := gm 1073 (by decide +kernel) rfl
theorem q_1077 : (Jvm.Cond.methodLink "LeftLacksLaw" (67 : Nat) ({ cls := "LeftLacksModel", name := "feed", desc := "(JI)I" } : Jvm.MethodName)) ∈ gtbl := gm 1077 (by decide +kernel) rfl
theorem q_1082 : (Jvm.Cond.methodLink "LeftLacksLaw" (71 : Nat) ({ cls := "LeftLacksModel", name := "text", desc := "(I)I" } : Jvm.MethodName)) ∈ gtbl := gm 1082 (by decide +kernel) rfl
theorem q_1126 : (Jvm.Cond.methodLink "LeftLacksLaw" (75 : Nat) ({ cls := "LeftLacksModel", name := "untell", desc := "(I)I" } : Jvm.MethodName)) ∈ gtbl := gm 1126 (by decide +kernel) rfl
theorem q_1134 : (Jvm.Cond.methodLink "LeftLacksLaw" (43 : Nat) ({ cls := "LeftLacksModel", name := "price", desc := "(II)I" } : Jvm.MethodName)) ∈ gtbl := gm 1134 (by decide +kernel) rfl
theorem q_1156 : (Jvm.Cond.methodLink "LeftLacksLaw" (47 : Nat) ({ cls := "LeftLacksModel", name := "fills", desc := "(II)I" } : Jvm.MethodName)) ∈ gtbl := gm 1156 (by decide +kernel) rfl
theorem q_1168 : (Jvm.Cond.methodLink "LeftLacksLaw" (79 : Nat) ({ cls := "LeftLacksModel", name := "morning", desc := "()I" } : Jvm.MethodName)) ∈ gtbl := gm 1168 (by decide +kernel) rfl
theorem q_1198 : (Jvm.Cond.methodLink "LeftLacksLaw" (83 : Nat) ({ cls := "LeftLacksModel", name := "visit", desc := "(I)I" } : Jvm.MethodName)) ∈ gtbl := gm 1198 (by decide +kernel) rfl
theorem q_1210 : (Jvm.Cond.methodLink "LeftLacksLaw" (87 : Nat) ({ cls := "LeftLacksModel", name := "days", desc := "(I)I" } : Jvm.MethodName)) ∈ gtbl := gm 1210 (by decide +kernel) rfl
theorem q_1230 : (Jvm.Cond.methodLink "LeftLacksLaw" (91 : Nat) ({ cls := "LeftLacksModel", name := "loose", desc := "(I)I" } : Jvm.MethodName)) ∈ gtbl := gm 1230 (by decide +kernel) rfl
theorem q_1234 : (Jvm.Cond.methodLink "LeftLacksLaw" (95 : Nat) ({ cls := "LeftLacksModel", name := "seed", desc := "(I)I" } : Jvm.MethodName)) ∈ gtbl := gm 1234 (by decide +kernel) rfl
theorem q_1238 : (Jvm.Cond.methodLink "LeftLacksLaw" (99 : Nat) ({ cls := "LeftLacksModel", name := "then", desc := "(III)I" } : Jvm.MethodName)) ∈ gtbl := gm 1238 (by decide +kernel) rfl
theorem q_1245 : (Jvm.Cond.methodLink "LeftLacksLaw" (103 : Nat) ({ cls := "LeftLacksModel", name := "keep", desc := "(III)I" } : Jvm.MethodName)) ∈ gtbl := gm 1245 (by decide +kernel) rfl
theorem q_1249 : (Jvm.Cond.methodLink "LeftLacksLaw" (107 : Nat) ({ cls := "LeftLacksModel", name := "range", desc := "(II)I" } : Jvm.MethodName)) ∈ gtbl := gm 1249 (by decide +kernel) rfl
theorem q_1257 : (Jvm.Cond.methodLink "LeftLacksLaw" (111 : Nat) ({ cls := "LeftLacksModel", name := "turn", desc := "(II)I" } : Jvm.MethodName)) ∈ gtbl := gm 1257 (by decide +kernel) rfl
theorem q_1265 : (Jvm.Cond.methodLink "LeftLacksLaw" (115 : Nat) ({ cls := "LeftLacksModel", name := "out", desc := "(II)I" } : Jvm.MethodName)) ∈ gtbl := gm 1265 (by decide +kernel) rfl
theorem q_1273 : (Jvm.Cond.methodLink "LeftLacksLaw" (119 : Nat) ({ cls := "LeftLacksModel", name := "joined", desc := "(II)I" } : Jvm.MethodName)) ∈ gtbl := gm 1273 (by decide +kernel) rfl
theorem q_1281 : (Jvm.Cond.methodLink "LeftLacksLaw" (123 : Nat) ({ cls := "LeftLacksModel", name := "walk", desc := "(I)I" } : Jvm.MethodName)) ∈ gtbl := gm 1281 (by decide +kernel) rfl
theorem q_1285 : (Jvm.Cond.methodLink "LeftLacksLaw" (127 : Nat) ({ cls := "LeftLacksModel", name := "voice", desc := "(III)I" } : Jvm.MethodName)) ∈ gtbl := gm 1285 (by decide +kernel) rfl
theorem q_1320 : (Jvm.Cond.methodLink "LeftLacksLaw" (131 : Nat) ({ cls := "LeftLacksModel", name := "body", desc := "(I)I" } : Jvm.MethodName)) ∈ gtbl := gm 1320 (by decide +kernel) rfl
theorem q_1324 : (Jvm.Cond.methodLink "LeftLacksLaw" (135 : Nat) ({ cls := "LeftLacksModel", name := "sheet", desc := "(III)I" } : Jvm.MethodName)) ∈ gtbl := gm 1324 (by decide +kernel) rfl
theorem q_1331 : (Jvm.Cond.methodLink "LeftLacksLaw" (139 : Nat) ({ cls := "LeftLacksModel", name := "put", desc := "(III)I" } : Jvm.MethodName)) ∈ gtbl := gm 1331 (by decide +kernel) rfl
theorem q_1335 : (Jvm.Cond.methodLink "LeftLacksLaw" (144 : Nat) ({ cls := "LeftLacksModel", name := "move", desc := "(IIIII)I" } : Jvm.MethodName)) ∈ gtbl := gm 1335 (by decide +kernel) rfl
theorem q_1339 : (Jvm.Cond.methodLink "LeftLacksLaw" (148 : Nat) ({ cls := "LeftLacksModel", name := "customers", desc := "(I)I" } : Jvm.MethodName)) ∈ gtbl := gm 1339 (by decide +kernel) rfl
theorem q_1347 : (Jvm.Cond.methodLink "LeftLacksLaw" (152 : Nat) ({ cls := "LeftLacksModel", name := "judge", desc := "(I)I" } : Jvm.MethodName)) ∈ gtbl := gm 1347 (by decide +kernel) rfl
theorem q_1351 : (Jvm.Cond.methodLink "LeftLacksLaw" (156 : Nat) ({ cls := "LeftLacksModel", name := "came", desc := "(III)I" } : Jvm.MethodName)) ∈ gtbl := gm 1351 (by decide +kernel) rfl
theorem q_1359 : (Jvm.Cond.methodLink "LeftLacksLaw" (160 : Nat) ({ cls := "LeftLacksModel", name := "image", desc := "()I" } : Jvm.MethodName)) ∈ gtbl := gm 1359 (by decide +kernel) rfl
theorem q_1363 : (Jvm.Cond.methodLink "LeftLacksLaw" (164 : Nat) ({ cls := "LeftLacksModel", name := "restore", desc := "()I" } : Jvm.MethodName)) ∈ gtbl := gm 1363 (by decide +kernel) rfl
theorem q_1367 : (Jvm.Cond.methodLink "LeftLacksLaw" (168 : Nat) ({ cls := "LeftLacksModel", name := "tell", desc := "(I)I" } : Jvm.MethodName)) ∈ gtbl := gm 1367 (by decide +kernel) rfl
theorem q_1371 : (Jvm.Cond.methodLink "LeftLacksLaw" (172 : Nat) ({ cls := "LeftLacksModel", name := "check", desc := "()I" } : Jvm.MethodName)) ∈ gtbl := gm 1371 (by decide +kernel) rfl
theorem q_1375 : (Jvm.Cond.methodLink "LeftLacksLaw" (176 : Nat) ({ cls := "LeftLacksModel", name := "count", desc := "(I)I" } : Jvm.MethodName)) ∈ gtbl := gm 1375 (by decide +kernel) rfl
theorem q_1379 : (Jvm.Cond.methodLink "LeftLacksLaw" (180 : Nat) ({ cls := "LeftLacksModel", name := "told", desc := "(I)I" } : Jvm.MethodName)) ∈ gtbl := gm 1379 (by decide +kernel) rfl
theorem q_1383 : (Jvm.Cond.constantLong "LeftLacksLaw" (61 : Nat) (4294967295 : Int64)) ∈ gtbl := gm 1383 (by decide +kernel) rfl
def law_J1428 (sn : Nat) (xs : Nat → Int32) (k18 : Nat → Nat → Int32 → Mem → Res) (a1 : Nat) (a2 : Nat) (x3 : Int32) (m0 : Mem) : Res :=
  bnd (x3 + (6 : Int32)) (fun y1 =>
  k18 a1 a2 y1 m0)
def law_L18B (sn : Nat) (xs : Nat → Int32) (k18 : Nat → Nat → Int32 → Mem → Res) (a1 : Nat) (a2 : Nat) (x3 : Int32) (m0 : Mem) : Res :=
  (if ((Int32.ofNat sn) - (6 : Int32)) < x3 then
  some ((1 : Int32), m0)
  else
  gd (inb x3 sn) (
  (if ((xs x3.toNatClampNeg) &&& (63 : Int32)) = (0 : Int32) then
  gd (inb (x3 + (1 : Int32)) sn) (
  gd (inb (x3 + (2 : Int32)) sn) (
  cal (f_X8_cost a1 (xs (x3 + (1 : Int32)).toNatClampNeg) (xs (x3 + (2 : Int32)).toNatClampNeg) m0) (fun r1 m2 =>
  gd (inb (x3 + (1 : Int32)) sn) (
  gd (inb (x3 + (2 : Int32)) sn) (
  cal (f_X9_cost a2 (xs (x3 + (1 : Int32)).toNatClampNeg) (xs (x3 + (2 : Int32)).toNatClampNeg) m2) (fun r3 m4 =>
  (if r1 = r3 then
  law_J1428 sn xs k18 a1 a2 x3 m4
  else
  none)))))))
  else
  if ((xs x3.toNatClampNeg) &&& (63 : Int32)) = (1 : Int32) then
  gd (inb (x3 + (1 : Int32)) sn) (
  gd (inb (x3 + (2 : Int32)) sn) (
  cal (f_X8_rule a1 (xs (x3 + (1 : Int32)).toNatClampNeg) (xs (x3 + (2 : Int32)).toNatClampNeg) m0) (fun r6 m7 =>
  gd (inb (x3 + (1 : Int32)) sn) (
  gd (inb (x3 + (2 : Int32)) sn) (
  cal (f_X9_rule a2 (xs (x3 + (1 : Int32)).toNatClampNeg) (xs (x3 + (2 : Int32)).toNatClampNeg) m7) (fun r8 m9 =>
  (if r6 = r8 then
  law_J1428 sn xs k18 a1 a2 x3 m9
  else
  none)))))))
  else
  if ((xs x3.toNatClampNeg) &&& (63 : Int32)) = (2 : Int32) then
  gd (inb (x3 + (1 : Int32)) sn) (
  cal (f_X8_shop a1 (xs (x3 + (1 : Int32)).toNatClampNeg) m0) (fun r11 m12 =>
  gd (inb (x3 + (1 : Int32)) sn) (
  cal (f_X9_shop a2 (xs (x3 + (1 : Int32)).toNatClampNeg) m12) (fun r13 m14 =>
  (if r11 = r13 then
  law_J1428 sn xs k18 a1 a2 x3 m14
  else
  none)))))
  else
  if ((xs x3.toNatClampNeg) &&& (63 : Int32)) = (3 : Int32) then
  gd (inb (x3 + (1 : Int32)) sn) (
  gd (inb (x3 + (2 : Int32)) sn) (
  cal (f_X8_shopIs a1 (xs (x3 + (1 : Int32)).toNatClampNeg) (xs (x3 + (2 : Int32)).toNatClampNeg) m0) (fun r16 m17 =>
  gd (inb (x3 + (1 : Int32)) sn) (
  gd (inb (x3 + (2 : Int32)) sn) (
  cal (f_X9_shopIs a2 (xs (x3 + (1 : Int32)).toNatClampNeg) (xs (x3 + (2 : Int32)).toNatClampNeg) m17) (fun r18 m19 =>
  (if r16 = r18 then
  law_J1428 sn xs k18 a1 a2 x3 m19
  else
  none)))))))
  else
  if ((xs x3.toNatClampNeg) &&& (63 : Int32)) = (4 : Int32) then
  gd (inb (x3 + (1 : Int32)) sn) (
  gd (inb (x3 + (2 : Int32)) sn) (
  cal (f_X8_as a1 (xs (x3 + (1 : Int32)).toNatClampNeg) (xs (x3 + (2 : Int32)).toNatClampNeg) m0) (fun r21 m22 =>
  gd (inb (x3 + (1 : Int32)) sn) (
  gd (inb (x3 + (2 : Int32)) sn) (
  cal (f_X9_as a2 (xs (x3 + (1 : Int32)).toNatClampNeg) (xs (x3 + (2 : Int32)).toNatClampNeg) m22) (fun r23 m24 =>
  (if r21 = r23 then
  law_J1428 sn xs k18 a1 a2 x3 m24
  else
  none)))))))
  else
  if ((xs x3.toNatClampNeg) &&& (63 : Int32)) = (5 : Int32) then
  gd (inb (x3 + (1 : Int32)) sn) (
  gd (inb (x3 + (2 : Int32)) sn) (
  gd (inb (x3 + (3 : Int32)) sn) (
  cal (f_X8_set a1 (xs (x3 + (1 : Int32)).toNatClampNeg) (xs (x3 + (2 : Int32)).toNatClampNeg) (xs (x3 + (3 : Int32)).toNatClampNeg) m0) (fun r26 m27 =>
  gd (inb (x3 + (1 : Int32)) sn) (
  gd (inb (x3 + (2 : Int32)) sn) (
  gd (inb (x3 + (3 : Int32)) sn) (
  cal (f_X9_set a2 (xs (x3 + (1 : Int32)).toNatClampNeg) (xs (x3 + (2 : Int32)).toNatClampNeg) (xs (x3 + (3 : Int32)).toNatClampNeg) m27) (fun r28 m29 =>
  (if r26 = r28 then
  law_J1428 sn xs k18 a1 a2 x3 m29
  else
  none)))))))))
  else
  if ((xs x3.toNatClampNeg) &&& (63 : Int32)) = (6 : Int32) then
  gd (inb (x3 + (1 : Int32)) sn) (
  gd (inb (x3 + (2 : Int32)) sn) (
  cal (f_X8_price a1 (xs (x3 + (1 : Int32)).toNatClampNeg) (xs (x3 + (2 : Int32)).toNatClampNeg) m0) (fun r31 m32 =>
  gd (inb (x3 + (1 : Int32)) sn) (
  gd (inb (x3 + (2 : Int32)) sn) (
  cal (f_X9_price a2 (xs (x3 + (1 : Int32)).toNatClampNeg) (xs (x3 + (2 : Int32)).toNatClampNeg) m32) (fun r33 m34 =>
  (if r31 = r33 then
  law_J1428 sn xs k18 a1 a2 x3 m34
  else
  none)))))))
  else
  if ((xs x3.toNatClampNeg) &&& (63 : Int32)) = (7 : Int32) then
  gd (inb (x3 + (1 : Int32)) sn) (
  gd (inb (x3 + (2 : Int32)) sn) (
  cal (f_X8_fills a1 (xs (x3 + (1 : Int32)).toNatClampNeg) (xs (x3 + (2 : Int32)).toNatClampNeg) m0) (fun r36 m37 =>
  gd (inb (x3 + (1 : Int32)) sn) (
  gd (inb (x3 + (2 : Int32)) sn) (
  cal (f_X9_fills a2 (xs (x3 + (1 : Int32)).toNatClampNeg) (xs (x3 + (2 : Int32)).toNatClampNeg) m37) (fun r38 m39 =>
  (if r36 = r38 then
  law_J1428 sn xs k18 a1 a2 x3 m39
  else
  none)))))))
  else
  if ((xs x3.toNatClampNeg) &&& (63 : Int32)) = (8 : Int32) then
  gd (inb (x3 + (1 : Int32)) sn) (
  gd (inb (x3 + (2 : Int32)) sn) (
  gd (inb (x3 + (3 : Int32)) sn) (
  cal (f_X8_customer a1 (xs (x3 + (1 : Int32)).toNatClampNeg) (xs (x3 + (2 : Int32)).toNatClampNeg) (xs (x3 + (3 : Int32)).toNatClampNeg) m0) (fun r41 m42 =>
  gd (inb (x3 + (1 : Int32)) sn) (
  gd (inb (x3 + (2 : Int32)) sn) (
  gd (inb (x3 + (3 : Int32)) sn) (
  cal (f_X9_customer a2 (xs (x3 + (1 : Int32)).toNatClampNeg) (xs (x3 + (2 : Int32)).toNatClampNeg) (xs (x3 + (3 : Int32)).toNatClampNeg) m42) (fun r43 m44 =>
  (if r41 = r43 then
  law_J1428 sn xs k18 a1 a2 x3 m44
  else
  none)))))))))
  else
  if ((xs x3.toNatClampNeg) &&& (63 : Int32)) = (9 : Int32) then
  gd (inb (x3 + (1 : Int32)) sn) (
  gd (inb (x3 + (2 : Int32)) sn) (
  cal (f_X8_customerIs a1 (xs (x3 + (1 : Int32)).toNatClampNeg) (xs (x3 + (2 : Int32)).toNatClampNeg) m0) (fun r46 m47 =>
  gd (inb (x3 + (1 : Int32)) sn) (
  gd (inb (x3 + (2 : Int32)) sn) (
  cal (f_X9_customerIs a2 (xs (x3 + (1 : Int32)).toNatClampNeg) (xs (x3 + (2 : Int32)).toNatClampNeg) m47) (fun r48 m49 =>
  (if r46 = r48 then
  law_J1428 sn xs k18 a1 a2 x3 m49
  else
  none)))))))
  else
  if ((xs x3.toNatClampNeg) &&& (63 : Int32)) = (10 : Int32) then
  cal (f_X8_leave a1 m0) (fun r51 m52 =>
  cal (f_X9_leave a2 m52) (fun r53 m54 =>
  (if r51 = r53 then
  law_J1428 sn xs k18 a1 a2 x3 m54
  else
  none)))
  else
  if ((xs x3.toNatClampNeg) &&& (63 : Int32)) = (11 : Int32) then
  gd (inb (x3 + (1 : Int32)) sn) (
  gd (inb (x3 + (2 : Int32)) sn) (
  gd (inb (x3 + (3 : Int32)) sn) (
  cal (f_X8_feed a1 ((lsl ((xs (x3 + (1 : Int32)).toNatClampNeg).toInt64) (32 : Int32)) ||| (((xs (x3 + (2 : Int32)).toNatClampNeg).toInt64) &&& (4294967295 : Int64))) (xs (x3 + (3 : Int32)).toNatClampNeg) m0) (fun r56 m57 =>
  gd (inb (x3 + (1 : Int32)) sn) (
  gd (inb (x3 + (2 : Int32)) sn) (
  gd (inb (x3 + (3 : Int32)) sn) (
  cal (f_X9_feed a2 ((lsl ((xs (x3 + (1 : Int32)).toNatClampNeg).toInt64) (32 : Int32)) ||| (((xs (x3 + (2 : Int32)).toNatClampNeg).toInt64) &&& (4294967295 : Int64))) (xs (x3 + (3 : Int32)).toNatClampNeg) m57) (fun r58 m59 =>
  (if r56 = r58 then
  law_J1428 sn xs k18 a1 a2 x3 m59
  else
  none)))))))))
  else
  if ((xs x3.toNatClampNeg) &&& (63 : Int32)) = (12 : Int32) then
  gd (inb (x3 + (1 : Int32)) sn) (
  cal (f_X8_text a1 (xs (x3 + (1 : Int32)).toNatClampNeg) m0) (fun r61 m62 =>
  gd (inb (x3 + (1 : Int32)) sn) (
  cal (f_X9_text a2 (xs (x3 + (1 : Int32)).toNatClampNeg) m62) (fun r63 m64 =>
  (if r61 = r63 then
  law_J1428 sn xs k18 a1 a2 x3 m64
  else
  none)))))
  else
  if ((xs x3.toNatClampNeg) &&& (63 : Int32)) = (13 : Int32) then
  gd (inb (x3 + (1 : Int32)) sn) (
  cal (f_X8_untell a1 (xs (x3 + (1 : Int32)).toNatClampNeg) m0) (fun r66 m67 =>
  gd (inb (x3 + (1 : Int32)) sn) (
  cal (f_X9_untell a2 (xs (x3 + (1 : Int32)).toNatClampNeg) m67) (fun r68 m69 =>
  (if r66 = r68 then
  law_J1428 sn xs k18 a1 a2 x3 m69
  else
  none)))))
  else
  if ((xs x3.toNatClampNeg) &&& (63 : Int32)) = (14 : Int32) then
  cal (f_X8_morning a1 m0) (fun r71 m72 =>
  cal (f_X9_morning a2 m72) (fun r73 m74 =>
  (if r71 = r73 then
  law_J1428 sn xs k18 a1 a2 x3 m74
  else
  none)))
  else
  if ((xs x3.toNatClampNeg) &&& (63 : Int32)) = (15 : Int32) then
  gd (inb (x3 + (1 : Int32)) sn) (
  cal (f_X8_visit a1 (xs (x3 + (1 : Int32)).toNatClampNeg) m0) (fun r76 m77 =>
  gd (inb (x3 + (1 : Int32)) sn) (
  cal (f_X9_visit a2 (xs (x3 + (1 : Int32)).toNatClampNeg) m77) (fun r78 m79 =>
  (if r76 = r78 then
  law_J1428 sn xs k18 a1 a2 x3 m79
  else
  none)))))
  else
  if ((xs x3.toNatClampNeg) &&& (63 : Int32)) = (16 : Int32) then
  gd (inb (x3 + (1 : Int32)) sn) (
  cal (f_X8_days a1 (xs (x3 + (1 : Int32)).toNatClampNeg) m0) (fun r81 m82 =>
  gd (inb (x3 + (1 : Int32)) sn) (
  cal (f_X9_days a2 (xs (x3 + (1 : Int32)).toNatClampNeg) m82) (fun r83 m84 =>
  (if r81 = r83 then
  law_J1428 sn xs k18 a1 a2 x3 m84
  else
  none)))))
  else
  if ((xs x3.toNatClampNeg) &&& (63 : Int32)) = (17 : Int32) then
  gd (inb (x3 + (1 : Int32)) sn) (
  cal (f_X8_loose a1 (xs (x3 + (1 : Int32)).toNatClampNeg) m0) (fun r86 m87 =>
  gd (inb (x3 + (1 : Int32)) sn) (
  cal (f_X9_loose a2 (xs (x3 + (1 : Int32)).toNatClampNeg) m87) (fun r88 m89 =>
  (if r86 = r88 then
  law_J1428 sn xs k18 a1 a2 x3 m89
  else
  none)))))
  else
  if ((xs x3.toNatClampNeg) &&& (63 : Int32)) = (18 : Int32) then
  gd (inb (x3 + (1 : Int32)) sn) (
  cal (f_X8_seed a1 (xs (x3 + (1 : Int32)).toNatClampNeg) m0) (fun r91 m92 =>
  gd (inb (x3 + (1 : Int32)) sn) (
  cal (f_X9_seed a2 (xs (x3 + (1 : Int32)).toNatClampNeg) m92) (fun r93 m94 =>
  (if r91 = r93 then
  law_J1428 sn xs k18 a1 a2 x3 m94
  else
  none)))))
  else
  if ((xs x3.toNatClampNeg) &&& (63 : Int32)) = (19 : Int32) then
  gd (inb (x3 + (1 : Int32)) sn) (
  gd (inb (x3 + (2 : Int32)) sn) (
  gd (inb (x3 + (3 : Int32)) sn) (
  cal (f_X8_then a1 (xs (x3 + (1 : Int32)).toNatClampNeg) (xs (x3 + (2 : Int32)).toNatClampNeg) (xs (x3 + (3 : Int32)).toNatClampNeg) m0) (fun r96 m97 =>
  gd (inb (x3 + (1 : Int32)) sn) (
  gd (inb (x3 + (2 : Int32)) sn) (
  gd (inb (x3 + (3 : Int32)) sn) (
  cal (f_X9_then a2 (xs (x3 + (1 : Int32)).toNatClampNeg) (xs (x3 + (2 : Int32)).toNatClampNeg) (xs (x3 + (3 : Int32)).toNatClampNeg) m97) (fun r98 m99 =>
  (if r96 = r98 then
  law_J1428 sn xs k18 a1 a2 x3 m99
  else
  none)))))))))
  else
  if ((xs x3.toNatClampNeg) &&& (63 : Int32)) = (20 : Int32) then
  gd (inb (x3 + (1 : Int32)) sn) (
  gd (inb (x3 + (2 : Int32)) sn) (
  gd (inb (x3 + (3 : Int32)) sn) (
  cal (f_X8_keep a1 (xs (x3 + (1 : Int32)).toNatClampNeg) (xs (x3 + (2 : Int32)).toNatClampNeg) (xs (x3 + (3 : Int32)).toNatClampNeg) m0) (fun r101 m102 =>
  gd (inb (x3 + (1 : Int32)) sn) (
  gd (inb (x3 + (2 : Int32)) sn) (
  gd (inb (x3 + (3 : Int32)) sn) (
  cal (f_X9_keep a2 (xs (x3 + (1 : Int32)).toNatClampNeg) (xs (x3 + (2 : Int32)).toNatClampNeg) (xs (x3 + (3 : Int32)).toNatClampNeg) m102) (fun r103 m104 =>
  (if r101 = r103 then
  law_J1428 sn xs k18 a1 a2 x3 m104
  else
  none)))))))))
  else
  if ((xs x3.toNatClampNeg) &&& (63 : Int32)) = (21 : Int32) then
  gd (inb (x3 + (1 : Int32)) sn) (
  gd (inb (x3 + (2 : Int32)) sn) (
  cal (f_X8_range a1 (xs (x3 + (1 : Int32)).toNatClampNeg) (xs (x3 + (2 : Int32)).toNatClampNeg) m0) (fun r106 m107 =>
  gd (inb (x3 + (1 : Int32)) sn) (
  gd (inb (x3 + (2 : Int32)) sn) (
  cal (f_X9_range a2 (xs (x3 + (1 : Int32)).toNatClampNeg) (xs (x3 + (2 : Int32)).toNatClampNeg) m107) (fun r108 m109 =>
  (if r106 = r108 then
  law_J1428 sn xs k18 a1 a2 x3 m109
  else
  none)))))))
  else
  if ((xs x3.toNatClampNeg) &&& (63 : Int32)) = (22 : Int32) then
  gd (inb (x3 + (1 : Int32)) sn) (
  gd (inb (x3 + (2 : Int32)) sn) (
  cal (f_X8_turn a1 (xs (x3 + (1 : Int32)).toNatClampNeg) (xs (x3 + (2 : Int32)).toNatClampNeg) m0) (fun r111 m112 =>
  gd (inb (x3 + (1 : Int32)) sn) (
  gd (inb (x3 + (2 : Int32)) sn) (
  cal (f_X9_turn a2 (xs (x3 + (1 : Int32)).toNatClampNeg) (xs (x3 + (2 : Int32)).toNatClampNeg) m112) (fun r113 m114 =>
  (if r111 = r113 then
  law_J1428 sn xs k18 a1 a2 x3 m114
  else
  none)))))))
  else
  if ((xs x3.toNatClampNeg) &&& (63 : Int32)) = (23 : Int32) then
  gd (inb (x3 + (1 : Int32)) sn) (
  gd (inb (x3 + (2 : Int32)) sn) (
  cal (f_X8_out a1 (xs (x3 + (1 : Int32)).toNatClampNeg) (xs (x3 + (2 : Int32)).toNatClampNeg) m0) (fun r116 m117 =>
  gd (inb (x3 + (1 : Int32)) sn) (
  gd (inb (x3 + (2 : Int32)) sn) (
  cal (f_X9_out a2 (xs (x3 + (1 : Int32)).toNatClampNeg) (xs (x3 + (2 : Int32)).toNatClampNeg) m117) (fun r118 m119 =>
  (if r116 = r118 then
  law_J1428 sn xs k18 a1 a2 x3 m119
  else
  none)))))))
  else
  if ((xs x3.toNatClampNeg) &&& (63 : Int32)) = (24 : Int32) then
  gd (inb (x3 + (1 : Int32)) sn) (
  gd (inb (x3 + (2 : Int32)) sn) (
  cal (f_X8_joined a1 (xs (x3 + (1 : Int32)).toNatClampNeg) (xs (x3 + (2 : Int32)).toNatClampNeg) m0) (fun r121 m122 =>
  gd (inb (x3 + (1 : Int32)) sn) (
  gd (inb (x3 + (2 : Int32)) sn) (
  cal (f_X9_joined_ a2 (xs (x3 + (1 : Int32)).toNatClampNeg) (xs (x3 + (2 : Int32)).toNatClampNeg) m122) (fun r123 m124 =>
  (if r121 = r123 then
  law_J1428 sn xs k18 a1 a2 x3 m124
  else
  none)))))))
  else
  if ((xs x3.toNatClampNeg) &&& (63 : Int32)) = (25 : Int32) then
  gd (inb (x3 + (1 : Int32)) sn) (
  cal (f_X8_walk a1 (xs (x3 + (1 : Int32)).toNatClampNeg) m0) (fun r126 m127 =>
  gd (inb (x3 + (1 : Int32)) sn) (
  cal (f_X9_walk a2 (xs (x3 + (1 : Int32)).toNatClampNeg) m127) (fun r128 m129 =>
  (if r126 = r128 then
  law_J1428 sn xs k18 a1 a2 x3 m129
  else
  none)))))
  else
  if ((xs x3.toNatClampNeg) &&& (63 : Int32)) = (26 : Int32) then
  gd (inb (x3 + (1 : Int32)) sn) (
  gd (inb (x3 + (2 : Int32)) sn) (
  gd (inb (x3 + (3 : Int32)) sn) (
  cal (f_X8_voice a1 (xs (x3 + (1 : Int32)).toNatClampNeg) (xs (x3 + (2 : Int32)).toNatClampNeg) (xs (x3 + (3 : Int32)).toNatClampNeg) m0) (fun r131 m132 =>
  gd (inb (x3 + (1 : Int32)) sn) (
  gd (inb (x3 + (2 : Int32)) sn) (
  gd (inb (x3 + (3 : Int32)) sn) (
  cal (f_X9_voice a2 (xs (x3 + (1 : Int32)).toNatClampNeg) (xs (x3 + (2 : Int32)).toNatClampNeg) (xs (x3 + (3 : Int32)).toNatClampNeg) m132) (fun r133 m134 =>
  (if r131 = r133 then
  law_J1428 sn xs k18 a1 a2 x3 m134
  else
  none)))))))))
  else
  if ((xs x3.toNatClampNeg) &&& (63 : Int32)) = (27 : Int32) then
  gd (inb (x3 + (1 : Int32)) sn) (
  cal (f_X8_body a1 (xs (x3 + (1 : Int32)).toNatClampNeg) m0) (fun r136 m137 =>
  gd (inb (x3 + (1 : Int32)) sn) (
  cal (f_X9_body a2 (xs (x3 + (1 : Int32)).toNatClampNeg) m137) (fun r138 m139 =>
  (if r136 = r138 then
  law_J1428 sn xs k18 a1 a2 x3 m139
  else
  none)))))
  else
  if ((xs x3.toNatClampNeg) &&& (63 : Int32)) = (28 : Int32) then
  gd (inb (x3 + (1 : Int32)) sn) (
  gd (inb (x3 + (2 : Int32)) sn) (
  gd (inb (x3 + (3 : Int32)) sn) (
  cal (f_X8_sheet a1 (xs (x3 + (1 : Int32)).toNatClampNeg) (xs (x3 + (2 : Int32)).toNatClampNeg) (xs (x3 + (3 : Int32)).toNatClampNeg) m0) (fun r141 m142 =>
  gd (inb (x3 + (1 : Int32)) sn) (
  gd (inb (x3 + (2 : Int32)) sn) (
  gd (inb (x3 + (3 : Int32)) sn) (
  cal (f_X9_sheet a2 (xs (x3 + (1 : Int32)).toNatClampNeg) (xs (x3 + (2 : Int32)).toNatClampNeg) (xs (x3 + (3 : Int32)).toNatClampNeg) m142) (fun r143 m144 =>
  (if r141 = r143 then
  law_J1428 sn xs k18 a1 a2 x3 m144
  else
  none)))))))))
  else
  if ((xs x3.toNatClampNeg) &&& (63 : Int32)) = (29 : Int32) then
  gd (inb (x3 + (1 : Int32)) sn) (
  gd (inb (x3 + (2 : Int32)) sn) (
  gd (inb (x3 + (3 : Int32)) sn) (
  cal (f_X8_put a1 (xs (x3 + (1 : Int32)).toNatClampNeg) (xs (x3 + (2 : Int32)).toNatClampNeg) (xs (x3 + (3 : Int32)).toNatClampNeg) m0) (fun r146 m147 =>
  gd (inb (x3 + (1 : Int32)) sn) (
  gd (inb (x3 + (2 : Int32)) sn) (
  gd (inb (x3 + (3 : Int32)) sn) (
  cal (f_X9_put a2 (xs (x3 + (1 : Int32)).toNatClampNeg) (xs (x3 + (2 : Int32)).toNatClampNeg) (xs (x3 + (3 : Int32)).toNatClampNeg) m147) (fun r148 m149 =>
  (if r146 = r148 then
  law_J1428 sn xs k18 a1 a2 x3 m149
  else
  none)))))))))
  else
  if ((xs x3.toNatClampNeg) &&& (63 : Int32)) = (30 : Int32) then
  gd (inb (x3 + (1 : Int32)) sn) (
  gd (inb (x3 + (2 : Int32)) sn) (
  gd (inb (x3 + (3 : Int32)) sn) (
  gd (inb (x3 + (4 : Int32)) sn) (
  gd (inb (x3 + (5 : Int32)) sn) (
  cal (f_X8_move a1 (xs (x3 + (1 : Int32)).toNatClampNeg) (xs (x3 + (2 : Int32)).toNatClampNeg) (xs (x3 + (3 : Int32)).toNatClampNeg) (xs (x3 + (4 : Int32)).toNatClampNeg) (xs (x3 + (5 : Int32)).toNatClampNeg) m0) (fun r151 m152 =>
  gd (inb (x3 + (1 : Int32)) sn) (
  gd (inb (x3 + (2 : Int32)) sn) (
  gd (inb (x3 + (3 : Int32)) sn) (
  gd (inb (x3 + (4 : Int32)) sn) (
  gd (inb (x3 + (5 : Int32)) sn) (
  cal (f_X9_move a2 (xs (x3 + (1 : Int32)).toNatClampNeg) (xs (x3 + (2 : Int32)).toNatClampNeg) (xs (x3 + (3 : Int32)).toNatClampNeg) (xs (x3 + (4 : Int32)).toNatClampNeg) (xs (x3 + (5 : Int32)).toNatClampNeg) m152) (fun r153 m154 =>
  (if r151 = r153 then
  law_J1428 sn xs k18 a1 a2 x3 m154
  else
  none)))))))))))))
  else
  if ((xs x3.toNatClampNeg) &&& (63 : Int32)) = (31 : Int32) then
  gd (inb (x3 + (1 : Int32)) sn) (
  cal (f_X8_customers a1 (xs (x3 + (1 : Int32)).toNatClampNeg) m0) (fun r156 m157 =>
  gd (inb (x3 + (1 : Int32)) sn) (
  cal (f_X9_customers a2 (xs (x3 + (1 : Int32)).toNatClampNeg) m157) (fun r158 m159 =>
  (if r156 = r158 then
  law_J1428 sn xs k18 a1 a2 x3 m159
  else
  none)))))
  else
  if ((xs x3.toNatClampNeg) &&& (63 : Int32)) = (32 : Int32) then
  gd (inb (x3 + (1 : Int32)) sn) (
  cal (f_X8_judge a1 (xs (x3 + (1 : Int32)).toNatClampNeg) m0) (fun r161 m162 =>
  gd (inb (x3 + (1 : Int32)) sn) (
  cal (f_X9_judge a2 (xs (x3 + (1 : Int32)).toNatClampNeg) m162) (fun r163 m164 =>
  (if r161 = r163 then
  law_J1428 sn xs k18 a1 a2 x3 m164
  else
  none)))))
  else
  if ((xs x3.toNatClampNeg) &&& (63 : Int32)) = (33 : Int32) then
  gd (inb (x3 + (1 : Int32)) sn) (
  gd (inb (x3 + (2 : Int32)) sn) (
  gd (inb (x3 + (3 : Int32)) sn) (
  cal (f_X8_came a1 (xs (x3 + (1 : Int32)).toNatClampNeg) (xs (x3 + (2 : Int32)).toNatClampNeg) (xs (x3 + (3 : Int32)).toNatClampNeg) m0) (fun r166 m167 =>
  gd (inb (x3 + (1 : Int32)) sn) (
  gd (inb (x3 + (2 : Int32)) sn) (
  gd (inb (x3 + (3 : Int32)) sn) (
  cal (f_X9_came a2 (xs (x3 + (1 : Int32)).toNatClampNeg) (xs (x3 + (2 : Int32)).toNatClampNeg) (xs (x3 + (3 : Int32)).toNatClampNeg) m167) (fun r168 m169 =>
  (if r166 = r168 then
  law_J1428 sn xs k18 a1 a2 x3 m169
  else
  none)))))))))
  else
  if ((xs x3.toNatClampNeg) &&& (63 : Int32)) = (34 : Int32) then
  cal (f_X8_image a1 m0) (fun r171 m172 =>
  cal (f_X9_image a2 m172) (fun r173 m174 =>
  (if r171 = r173 then
  law_J1428 sn xs k18 a1 a2 x3 m174
  else
  none)))
  else
  if ((xs x3.toNatClampNeg) &&& (63 : Int32)) = (35 : Int32) then
  cal (f_X8_restore a1 m0) (fun r176 m177 =>
  cal (f_X9_restore a2 m177) (fun r178 m179 =>
  (if r176 = r178 then
  law_J1428 sn xs k18 a1 a2 x3 m179
  else
  none)))
  else
  if ((xs x3.toNatClampNeg) &&& (63 : Int32)) = (36 : Int32) then
  gd (inb (x3 + (1 : Int32)) sn) (
  cal (f_X8_tell a1 (xs (x3 + (1 : Int32)).toNatClampNeg) m0) (fun r181 m182 =>
  gd (inb (x3 + (1 : Int32)) sn) (
  cal (f_X9_tell a2 (xs (x3 + (1 : Int32)).toNatClampNeg) m182) (fun r183 m184 =>
  (if r181 = r183 then
  law_J1428 sn xs k18 a1 a2 x3 m184
  else
  none)))))
  else
  if ((xs x3.toNatClampNeg) &&& (63 : Int32)) = (37 : Int32) then
  cal (f_X8_check a1 m0) (fun r186 m187 =>
  cal (f_X9_check a2 m187) (fun r188 m189 =>
  (if r186 = r188 then
  law_J1428 sn xs k18 a1 a2 x3 m189
  else
  none)))
  else
  if ((xs x3.toNatClampNeg) &&& (63 : Int32)) = (38 : Int32) then
  gd (inb (x3 + (1 : Int32)) sn) (
  cal (f_X8_count a1 (xs (x3 + (1 : Int32)).toNatClampNeg) m0) (fun r191 m192 =>
  gd (inb (x3 + (1 : Int32)) sn) (
  cal (f_X9_count a2 (xs (x3 + (1 : Int32)).toNatClampNeg) m192) (fun r193 m194 =>
  (if r191 = r193 then
  law_J1428 sn xs k18 a1 a2 x3 m194
  else
  none)))))
  else
  if ((xs x3.toNatClampNeg) &&& (63 : Int32)) = (39 : Int32) then
  gd (inb (x3 + (1 : Int32)) sn) (
  cal (f_X8_told a1 (xs (x3 + (1 : Int32)).toNatClampNeg) m0) (fun r196 m197 =>
  gd (inb (x3 + (1 : Int32)) sn) (
  cal (f_X9_told a2 (xs (x3 + (1 : Int32)).toNatClampNeg) m197) (fun r198 m199 =>
  (if r196 = r198 then
  law_J1428 sn xs k18 a1 a2 x3 m199
  else
  none)))))
  else
  law_J1428 sn xs k18 a1 a2 x3 m0)))
def law_L18 (sn : Nat) (xs : Nat → Int32)  : Nat → Nat → Nat → Int32 → Mem → Res
  | 0 => fun _ _ _ _ => none
  | n + 1 => law_L18B sn xs (law_L18 sn xs n)
set_option maxHeartbeats 8000000 in
set_option maxRecDepth 20000 in
theorem s_law_J1428 {K : KT} {b sn : Nat} {xs : Nat → Int32} (C : Cx K cL_law RL 4 200) (hb : LX K b sn xs) (hlr : ∀ (pc : Nat) (L : List (Nat × Value)) (μ : Mem), decode cL_law pc = .ok (.ireturn, 1) → G K pc L [.int (1 : Int32)] μ (some ((1 : Int32), μ))) {k18 : Nat → Nat → Int32 → Mem → Res} (hk18 : ∀ (a1 : Nat) (a2 : Nat) (x3 : Int32) (h1 : tg a1 = 8) (h2 : tg a2 = 9) (m0 : Mem), G K 18 [(0, .ref b), (1, .ref (kf K a1)), (2, .ref (kf K a2)), (3, .int x3)] [] m0 (k18 a1 a2 x3 m0)) (a1 : Nat) (a2 : Nat) (x3 : Int32) (h1 : tg a1 = 8) (h2 : tg a2 = 9) (m0 : Mem) : G K 1428 [(0, .ref b), (1, .ref (kf K a1)), (2, .ref (kf K a2)), (3, .int x3)] [] m0 (law_J1428 sn xs k18 a1 a2 x3 m0) := by
  unfold law_J1428
  refine g_iinc (k := 3) C dL_law_1428 rfl (w := (6 : Int32)) rfl (by decide) (fun v_ => [(3, .int v_), (0, .ref b), (1, .ref (kf K a1)), (2, .ref (kf K a2))]) (fun _ => rfl) (fun y1 => ?_)
  refine g_goto C 18 dL_law_1431 (by decide) ?_
  refine g_sub [1, 2, 3, 0] rfl ?_
  exact hk18 a1 a2 y1 h1 h2 m0
set_option maxHeartbeats 8000000 in
set_option maxRecDepth 20000 in
theorem s_law_L18B {K : KT} {b sn : Nat} {xs : Nat → Int32} (C : Cx K cL_law RL 4 200) (hb : LX K b sn xs) (hlr : ∀ (pc : Nat) (L : List (Nat × Value)) (μ : Mem), decode cL_law pc = .ok (.ireturn, 1) → G K pc L [.int (1 : Int32)] μ (some ((1 : Int32), μ))) {k18 : Nat → Nat → Int32 → Mem → Res} (hk18 : ∀ (a1 : Nat) (a2 : Nat) (x3 : Int32) (h1 : tg a1 = 8) (h2 : tg a2 = 9) (m0 : Mem), G K 18 [(0, .ref b), (1, .ref (kf K a1)), (2, .ref (kf K a2)), (3, .int x3)] [] m0 (k18 a1 a2 x3 m0)) (a1 : Nat) (a2 : Nat) (x3 : Int32) (h1 : tg a1 = 8) (h2 : tg a2 = 9) (m0 : Mem) : G K 18 [(0, .ref b), (1, .ref (kf K a1)), (2, .ref (kf K a2)), (3, .int x3)] [] m0 (law_L18B sn xs k18 a1 a2 x3 m0) := by
  unfold law_L18B
  refine g_iload_n C dL_law_18 3 rfl rfl ?_
  refine g_aload_n C dL_law_19 0 rfl rfl ?_
  refine g_slen C hb dL_law_20 ?_
  refine g_bipush C (6 : Int32) dL_law_21 rfl ?_
  refine g_isub C dL_law_23 ?_
  refine g_icmp_gt C 1434 dL_law_24 (by decide) (fun _ => ?_) (fun _ => ?_)
  · refine g_iconst C (1 : Int32) dL_law_1434 rfl ?_
    exact hlr _ _ _ dL_law_1435
  · refine g_aload_n C dL_law_27 0 rfl rfl ?_
    refine g_iload_n C dL_law_28 3 rfl rfl ?_
    refine g_sld C hb dL_law_29 (fun _ => ?_)
    refine g_bipush C (63 : Int32) dL_law_30 rfl ?_
    refine g_iand C dL_law_32 ?_
    refine g_tsw C 208 dL_law_33 (by decide) rfl (by decide) ?_ (fun e5 => ?_)
    · refine g_aload_n C dL_law_208 1 rfl rfl ?_
      refine g_aload_n C dL_law_209 0 rfl rfl ?_
      refine g_iload_n C dL_law_210 3 rfl rfl ?_
      refine g_iconst C (1 : Int32) dL_law_211 rfl ?_
      refine g_iadd C dL_law_212 ?_
      refine g_sld C hb dL_law_213 (fun _ => ?_)
      refine g_aload_n C dL_law_214 0 rfl rfl ?_
      refine g_iload_n C dL_law_215 3 rfl rfl ?_
      refine g_iconst C (2 : Int32) dL_law_216 rfl ?_
      refine g_iadd C dL_law_217 ?_
      refine g_sld C hb dL_law_218 (fun _ => ?_)
      refine g_callVi C cv_X8_cost (ct_X8_cost a1 (xs (x3 + (1 : Int32)).toNatClampNeg) (xs (x3 + (2 : Int32)).toNatClampNeg) h1 m0) q_334 h1 (by decide) rfl rfl (Nat.le_of_ble_eq_true rfl) dL_law_219 (fun r1 m2 => ?_)
      refine g_aload_n C dL_law_222 2 rfl rfl ?_
      refine g_aload_n C dL_law_223 0 rfl rfl ?_
      refine g_iload_n C dL_law_224 3 rfl rfl ?_
      refine g_iconst C (1 : Int32) dL_law_225 rfl ?_
      refine g_iadd C dL_law_226 ?_
      refine g_sld C hb dL_law_227 (fun _ => ?_)
      refine g_aload_n C dL_law_228 0 rfl rfl ?_
      refine g_iload_n C dL_law_229 3 rfl rfl ?_
      refine g_iconst C (2 : Int32) dL_law_230 rfl ?_
      refine g_iadd C dL_law_231 ?_
      refine g_sld C hb dL_law_232 (fun _ => ?_)
      refine g_callVi C cv_X9_cost (ct_X9_cost a2 (xs (x3 + (1 : Int32)).toNatClampNeg) (xs (x3 + (2 : Int32)).toNatClampNeg) h2 m2) q_980 h2 (by decide) rfl rfl (Nat.le_of_ble_eq_true rfl) dL_law_233 (fun r3 m4 => ?_)
      refine g_icmp_eq C 1428 dL_law_236 (by decide) (fun _ => ?_) (fun _ => ?_)
      · refine g_sub [0, 1, 2, 3] rfl ?_
        exact s_law_J1428 C hb hlr hk18 a1 a2 x3 h1 h2 m4
      · refine g_iconst C (0 : Int32) dL_law_239 rfl ?_
        exact g_none
    refine g_tsw C 241 dL_law_33 (by decide) rfl (by decide) ?_ (fun e10 => ?_)
    · refine g_aload_n C dL_law_241 1 rfl rfl ?_
      refine g_aload_n C dL_law_242 0 rfl rfl ?_
      refine g_iload_n C dL_law_243 3 rfl rfl ?_
      refine g_iconst C (1 : Int32) dL_law_244 rfl ?_
      refine g_iadd C dL_law_245 ?_
      refine g_sld C hb dL_law_246 (fun _ => ?_)
      refine g_aload_n C dL_law_247 0 rfl rfl ?_
      refine g_iload_n C dL_law_248 3 rfl rfl ?_
      refine g_iconst C (2 : Int32) dL_law_249 rfl ?_
      refine g_iadd C dL_law_250 ?_
      refine g_sld C hb dL_law_251 (fun _ => ?_)
      refine g_callVi C cv_X8_rule (ct_X8_rule a1 (xs (x3 + (1 : Int32)).toNatClampNeg) (xs (x3 + (2 : Int32)).toNatClampNeg) h1 m0) q_349 h1 (by decide) rfl rfl (Nat.le_of_ble_eq_true rfl) dL_law_252 (fun r6 m7 => ?_)
      refine g_aload_n C dL_law_255 2 rfl rfl ?_
      refine g_aload_n C dL_law_256 0 rfl rfl ?_
      refine g_iload_n C dL_law_257 3 rfl rfl ?_
      refine g_iconst C (1 : Int32) dL_law_258 rfl ?_
      refine g_iadd C dL_law_259 ?_
      refine g_sld C hb dL_law_260 (fun _ => ?_)
      refine g_aload_n C dL_law_261 0 rfl rfl ?_
      refine g_iload_n C dL_law_262 3 rfl rfl ?_
      refine g_iconst C (2 : Int32) dL_law_263 rfl ?_
      refine g_iadd C dL_law_264 ?_
      refine g_sld C hb dL_law_265 (fun _ => ?_)
      refine g_callVi C cv_X9_rule (ct_X9_rule a2 (xs (x3 + (1 : Int32)).toNatClampNeg) (xs (x3 + (2 : Int32)).toNatClampNeg) h2 m7) q_995 h2 (by decide) rfl rfl (Nat.le_of_ble_eq_true rfl) dL_law_266 (fun r8 m9 => ?_)
      refine g_icmp_eq C 1428 dL_law_269 (by decide) (fun _ => ?_) (fun _ => ?_)
      · refine g_sub [0, 1, 2, 3] rfl ?_
        exact s_law_J1428 C hb hlr hk18 a1 a2 x3 h1 h2 m9
      · refine g_iconst C (0 : Int32) dL_law_272 rfl ?_
        exact g_none
    refine g_tsw C 274 dL_law_33 (by decide) rfl (by decide) ?_ (fun e15 => ?_)
    · refine g_aload_n C dL_law_274 1 rfl rfl ?_
      refine g_aload_n C dL_law_275 0 rfl rfl ?_
      refine g_iload_n C dL_law_276 3 rfl rfl ?_
      refine g_iconst C (1 : Int32) dL_law_277 rfl ?_
      refine g_iadd C dL_law_278 ?_
      refine g_sld C hb dL_law_279 (fun _ => ?_)
      refine g_callVi C cv_X8_shop (ct_X8_shop a1 (xs (x3 + (1 : Int32)).toNatClampNeg) h1 m0) q_353 h1 (by decide) rfl rfl (Nat.le_of_ble_eq_true rfl) dL_law_280 (fun r11 m12 => ?_)
      refine g_aload_n C dL_law_283 2 rfl rfl ?_
      refine g_aload_n C dL_law_284 0 rfl rfl ?_
      refine g_iload_n C dL_law_285 3 rfl rfl ?_
      refine g_iconst C (1 : Int32) dL_law_286 rfl ?_
      refine g_iadd C dL_law_287 ?_
      refine g_sld C hb dL_law_288 (fun _ => ?_)
      refine g_callVi C cv_X9_shop (ct_X9_shop a2 (xs (x3 + (1 : Int32)).toNatClampNeg) h2 m12) q_999 h2 (by decide) rfl rfl (Nat.le_of_ble_eq_true rfl) dL_law_289 (fun r13 m14 => ?_)
      refine g_icmp_eq C 1428 dL_law_292 (by decide) (fun _ => ?_) (fun _ => ?_)
      · refine g_sub [0, 1, 2, 3] rfl ?_
        exact s_law_J1428 C hb hlr hk18 a1 a2 x3 h1 h2 m14
      · refine g_iconst C (0 : Int32) dL_law_295 rfl ?_
        exact g_none
    refine g_tsw C 297 dL_law_33 (by decide) rfl (by decide) ?_ (fun e20 => ?_)
    · refine g_aload_n C dL_law_297 1 rfl rfl ?_
      refine g_aload_n C dL_law_298 0 rfl rfl ?_
      refine g_iload_n C dL_law_299 3 rfl rfl ?_
      refine g_iconst C (1 : Int32) dL_law_300 rfl ?_
      refine g_iadd C dL_law_301 ?_
      refine g_sld C hb dL_law_302 (fun _ => ?_)
      refine g_aload_n C dL_law_303 0 rfl rfl ?_
      refine g_iload_n C dL_law_304 3 rfl rfl ?_
      refine g_iconst C (2 : Int32) dL_law_305 rfl ?_
      refine g_iadd C dL_law_306 ?_
      refine g_sld C hb dL_law_307 (fun _ => ?_)
      refine g_callVi C cv_X8_shopIs (ct_X8_shopIs a1 (xs (x3 + (1 : Int32)).toNatClampNeg) (xs (x3 + (2 : Int32)).toNatClampNeg) h1 m0) q_362 h1 (by decide) rfl rfl (Nat.le_of_ble_eq_true rfl) dL_law_308 (fun r16 m17 => ?_)
      refine g_aload_n C dL_law_311 2 rfl rfl ?_
      refine g_aload_n C dL_law_312 0 rfl rfl ?_
      refine g_iload_n C dL_law_313 3 rfl rfl ?_
      refine g_iconst C (1 : Int32) dL_law_314 rfl ?_
      refine g_iadd C dL_law_315 ?_
      refine g_sld C hb dL_law_316 (fun _ => ?_)
      refine g_aload_n C dL_law_317 0 rfl rfl ?_
      refine g_iload_n C dL_law_318 3 rfl rfl ?_
      refine g_iconst C (2 : Int32) dL_law_319 rfl ?_
      refine g_iadd C dL_law_320 ?_
      refine g_sld C hb dL_law_321 (fun _ => ?_)
      refine g_callVi C cv_X9_shopIs (ct_X9_shopIs a2 (xs (x3 + (1 : Int32)).toNatClampNeg) (xs (x3 + (2 : Int32)).toNatClampNeg) h2 m17) q_1007 h2 (by decide) rfl rfl (Nat.le_of_ble_eq_true rfl) dL_law_322 (fun r18 m19 => ?_)
      refine g_icmp_eq C 1428 dL_law_325 (by decide) (fun _ => ?_) (fun _ => ?_)
      · refine g_sub [0, 1, 2, 3] rfl ?_
        exact s_law_J1428 C hb hlr hk18 a1 a2 x3 h1 h2 m19
      · refine g_iconst C (0 : Int32) dL_law_328 rfl ?_
        exact g_none
    refine g_tsw C 330 dL_law_33 (by decide) rfl (by decide) ?_ (fun e25 => ?_)
    · refine g_aload_n C dL_law_330 1 rfl rfl ?_
      refine g_aload_n C dL_law_331 0 rfl rfl ?_
      refine g_iload_n C dL_law_332 3 rfl rfl ?_
      refine g_iconst C (1 : Int32) dL_law_333 rfl ?_
      refine g_iadd C dL_law_334 ?_
      refine g_sld C hb dL_law_335 (fun _ => ?_)
      refine g_aload_n C dL_law_336 0 rfl rfl ?_
      refine g_iload_n C dL_law_337 3 rfl rfl ?_
      refine g_iconst C (2 : Int32) dL_law_338 rfl ?_
      refine g_iadd C dL_law_339 ?_
      refine g_sld C hb dL_law_340 (fun _ => ?_)
      refine g_callVi C cv_X8_as (ct_X8_as a1 (xs (x3 + (1 : Int32)).toNatClampNeg) (xs (x3 + (2 : Int32)).toNatClampNeg) h1 m0) q_391 h1 (by decide) rfl rfl (Nat.le_of_ble_eq_true rfl) dL_law_341 (fun r21 m22 => ?_)
      refine g_aload_n C dL_law_344 2 rfl rfl ?_
      refine g_aload_n C dL_law_345 0 rfl rfl ?_
      refine g_iload_n C dL_law_346 3 rfl rfl ?_
      refine g_iconst C (1 : Int32) dL_law_347 rfl ?_
      refine g_iadd C dL_law_348 ?_
      refine g_sld C hb dL_law_349 (fun _ => ?_)
      refine g_aload_n C dL_law_350 0 rfl rfl ?_
      refine g_iload_n C dL_law_351 3 rfl rfl ?_
      refine g_iconst C (2 : Int32) dL_law_352 rfl ?_
      refine g_iadd C dL_law_353 ?_
      refine g_sld C hb dL_law_354 (fun _ => ?_)
      refine g_callVi C cv_X9_as (ct_X9_as a2 (xs (x3 + (1 : Int32)).toNatClampNeg) (xs (x3 + (2 : Int32)).toNatClampNeg) h2 m22) q_1039 h2 (by decide) rfl rfl (Nat.le_of_ble_eq_true rfl) dL_law_355 (fun r23 m24 => ?_)
      refine g_icmp_eq C 1428 dL_law_358 (by decide) (fun _ => ?_) (fun _ => ?_)
      · refine g_sub [0, 1, 2, 3] rfl ?_
        exact s_law_J1428 C hb hlr hk18 a1 a2 x3 h1 h2 m24
      · refine g_iconst C (0 : Int32) dL_law_361 rfl ?_
        exact g_none
    refine g_tsw C 363 dL_law_33 (by decide) rfl (by decide) ?_ (fun e30 => ?_)
    · refine g_aload_n C dL_law_363 1 rfl rfl ?_
      refine g_aload_n C dL_law_364 0 rfl rfl ?_
      refine g_iload_n C dL_law_365 3 rfl rfl ?_
      refine g_iconst C (1 : Int32) dL_law_366 rfl ?_
      refine g_iadd C dL_law_367 ?_
      refine g_sld C hb dL_law_368 (fun _ => ?_)
      refine g_aload_n C dL_law_369 0 rfl rfl ?_
      refine g_iload_n C dL_law_370 3 rfl rfl ?_
      refine g_iconst C (2 : Int32) dL_law_371 rfl ?_
      refine g_iadd C dL_law_372 ?_
      refine g_sld C hb dL_law_373 (fun _ => ?_)
      refine g_aload_n C dL_law_374 0 rfl rfl ?_
      refine g_iload_n C dL_law_375 3 rfl rfl ?_
      refine g_iconst C (3 : Int32) dL_law_376 rfl ?_
      refine g_iadd C dL_law_377 ?_
      refine g_sld C hb dL_law_378 (fun _ => ?_)
      refine g_callVi C cv_X8_set (ct_X8_set a1 (xs (x3 + (1 : Int32)).toNatClampNeg) (xs (x3 + (2 : Int32)).toNatClampNeg) (xs (x3 + (3 : Int32)).toNatClampNeg) h1 m0) q_400 h1 (by decide) rfl rfl (Nat.le_of_ble_eq_true rfl) dL_law_379 (fun r26 m27 => ?_)
      refine g_aload_n C dL_law_382 2 rfl rfl ?_
      refine g_aload_n C dL_law_383 0 rfl rfl ?_
      refine g_iload_n C dL_law_384 3 rfl rfl ?_
      refine g_iconst C (1 : Int32) dL_law_385 rfl ?_
      refine g_iadd C dL_law_386 ?_
      refine g_sld C hb dL_law_387 (fun _ => ?_)
      refine g_aload_n C dL_law_388 0 rfl rfl ?_
      refine g_iload_n C dL_law_389 3 rfl rfl ?_
      refine g_iconst C (2 : Int32) dL_law_390 rfl ?_
      refine g_iadd C dL_law_391 ?_
      refine g_sld C hb dL_law_392 (fun _ => ?_)
      refine g_aload_n C dL_law_393 0 rfl rfl ?_
      refine g_iload_n C dL_law_394 3 rfl rfl ?_
      refine g_iconst C (3 : Int32) dL_law_395 rfl ?_
      refine g_iadd C dL_law_396 ?_
      refine g_sld C hb dL_law_397 (fun _ => ?_)
      refine g_callVi C cv_X9_set (ct_X9_set a2 (xs (x3 + (1 : Int32)).toNatClampNeg) (xs (x3 + (2 : Int32)).toNatClampNeg) (xs (x3 + (3 : Int32)).toNatClampNeg) h2 m27) q_1046 h2 (by decide) rfl rfl (Nat.le_of_ble_eq_true rfl) dL_law_398 (fun r28 m29 => ?_)
      refine g_icmp_eq C 1428 dL_law_401 (by decide) (fun _ => ?_) (fun _ => ?_)
      · refine g_sub [0, 1, 2, 3] rfl ?_
        exact s_law_J1428 C hb hlr hk18 a1 a2 x3 h1 h2 m29
      · refine g_iconst C (0 : Int32) dL_law_404 rfl ?_
        exact g_none
    refine g_tsw C 406 dL_law_33 (by decide) rfl (by decide) ?_ (fun e35 => ?_)
    · refine g_aload_n C dL_law_406 1 rfl rfl ?_
      refine g_aload_n C dL_law_407 0 rfl rfl ?_
      refine g_iload_n C dL_law_408 3 rfl rfl ?_
      refine g_iconst C (1 : Int32) dL_law_409 rfl ?_
      refine g_iadd C dL_law_410 ?_
      refine g_sld C hb dL_law_411 (fun _ => ?_)
      refine g_aload_n C dL_law_412 0 rfl rfl ?_
      refine g_iload_n C dL_law_413 3 rfl rfl ?_
      refine g_iconst C (2 : Int32) dL_law_414 rfl ?_
      refine g_iadd C dL_law_415 ?_
      refine g_sld C hb dL_law_416 (fun _ => ?_)
      refine g_callVi C cv_X8_price (ct_X8_price a1 (xs (x3 + (1 : Int32)).toNatClampNeg) (xs (x3 + (2 : Int32)).toNatClampNeg) h1 m0) q_412 h1 (by decide) rfl rfl (Nat.le_of_ble_eq_true rfl) dL_law_417 (fun r31 m32 => ?_)
      refine g_aload_n C dL_law_420 2 rfl rfl ?_
      refine g_aload_n C dL_law_421 0 rfl rfl ?_
      refine g_iload_n C dL_law_422 3 rfl rfl ?_
      refine g_iconst C (1 : Int32) dL_law_423 rfl ?_
      refine g_iadd C dL_law_424 ?_
      refine g_sld C hb dL_law_425 (fun _ => ?_)
      refine g_aload_n C dL_law_426 0 rfl rfl ?_
      refine g_iload_n C dL_law_427 3 rfl rfl ?_
      refine g_iconst C (2 : Int32) dL_law_428 rfl ?_
      refine g_iadd C dL_law_429 ?_
      refine g_sld C hb dL_law_430 (fun _ => ?_)
      refine g_callVi C cv_X9_price (ct_X9_price a2 (xs (x3 + (1 : Int32)).toNatClampNeg) (xs (x3 + (2 : Int32)).toNatClampNeg) h2 m32) q_1134 h2 (by decide) rfl rfl (Nat.le_of_ble_eq_true rfl) dL_law_431 (fun r33 m34 => ?_)
      refine g_icmp_eq C 1428 dL_law_434 (by decide) (fun _ => ?_) (fun _ => ?_)
      · refine g_sub [0, 1, 2, 3] rfl ?_
        exact s_law_J1428 C hb hlr hk18 a1 a2 x3 h1 h2 m34
      · refine g_iconst C (0 : Int32) dL_law_437 rfl ?_
        exact g_none
    refine g_tsw C 439 dL_law_33 (by decide) rfl (by decide) ?_ (fun e40 => ?_)
    · refine g_aload_n C dL_law_439 1 rfl rfl ?_
      refine g_aload_n C dL_law_440 0 rfl rfl ?_
      refine g_iload_n C dL_law_441 3 rfl rfl ?_
      refine g_iconst C (1 : Int32) dL_law_442 rfl ?_
      refine g_iadd C dL_law_443 ?_
      refine g_sld C hb dL_law_444 (fun _ => ?_)
      refine g_aload_n C dL_law_445 0 rfl rfl ?_
      refine g_iload_n C dL_law_446 3 rfl rfl ?_
      refine g_iconst C (2 : Int32) dL_law_447 rfl ?_
      refine g_iadd C dL_law_448 ?_
      refine g_sld C hb dL_law_449 (fun _ => ?_)
      refine g_callVi C cv_X8_fills (ct_X8_fills a1 (xs (x3 + (1 : Int32)).toNatClampNeg) (xs (x3 + (2 : Int32)).toNatClampNeg) h1 m0) q_437 h1 (by decide) rfl rfl (Nat.le_of_ble_eq_true rfl) dL_law_450 (fun r36 m37 => ?_)
      refine g_aload_n C dL_law_453 2 rfl rfl ?_
      refine g_aload_n C dL_law_454 0 rfl rfl ?_
      refine g_iload_n C dL_law_455 3 rfl rfl ?_
      refine g_iconst C (1 : Int32) dL_law_456 rfl ?_
      refine g_iadd C dL_law_457 ?_
      refine g_sld C hb dL_law_458 (fun _ => ?_)
      refine g_aload_n C dL_law_459 0 rfl rfl ?_
      refine g_iload_n C dL_law_460 3 rfl rfl ?_
      refine g_iconst C (2 : Int32) dL_law_461 rfl ?_
      refine g_iadd C dL_law_462 ?_
      refine g_sld C hb dL_law_463 (fun _ => ?_)
      refine g_callVi C cv_X9_fills (ct_X9_fills a2 (xs (x3 + (1 : Int32)).toNatClampNeg) (xs (x3 + (2 : Int32)).toNatClampNeg) h2 m37) q_1156 h2 (by decide) rfl rfl (Nat.le_of_ble_eq_true rfl) dL_law_464 (fun r38 m39 => ?_)
      refine g_icmp_eq C 1428 dL_law_467 (by decide) (fun _ => ?_) (fun _ => ?_)
      · refine g_sub [0, 1, 2, 3] rfl ?_
        exact s_law_J1428 C hb hlr hk18 a1 a2 x3 h1 h2 m39
      · refine g_iconst C (0 : Int32) dL_law_470 rfl ?_
        exact g_none
    refine g_tsw C 472 dL_law_33 (by decide) rfl (by decide) ?_ (fun e45 => ?_)
    · refine g_aload_n C dL_law_472 1 rfl rfl ?_
      refine g_aload_n C dL_law_473 0 rfl rfl ?_
      refine g_iload_n C dL_law_474 3 rfl rfl ?_
      refine g_iconst C (1 : Int32) dL_law_475 rfl ?_
      refine g_iadd C dL_law_476 ?_
      refine g_sld C hb dL_law_477 (fun _ => ?_)
      refine g_aload_n C dL_law_478 0 rfl rfl ?_
      refine g_iload_n C dL_law_479 3 rfl rfl ?_
      refine g_iconst C (2 : Int32) dL_law_480 rfl ?_
      refine g_iadd C dL_law_481 ?_
      refine g_sld C hb dL_law_482 (fun _ => ?_)
      refine g_aload_n C dL_law_483 0 rfl rfl ?_
      refine g_iload_n C dL_law_484 3 rfl rfl ?_
      refine g_iconst C (3 : Int32) dL_law_485 rfl ?_
      refine g_iadd C dL_law_486 ?_
      refine g_sld C hb dL_law_487 (fun _ => ?_)
      refine g_callVi C cv_X8_customer (ct_X8_customer a1 (xs (x3 + (1 : Int32)).toNatClampNeg) (xs (x3 + (2 : Int32)).toNatClampNeg) (xs (x3 + (3 : Int32)).toNatClampNeg) h1 m0) q_448 h1 (by decide) rfl rfl (Nat.le_of_ble_eq_true rfl) dL_law_488 (fun r41 m42 => ?_)
      refine g_aload_n C dL_law_491 2 rfl rfl ?_
      refine g_aload_n C dL_law_492 0 rfl rfl ?_
      refine g_iload_n C dL_law_493 3 rfl rfl ?_
      refine g_iconst C (1 : Int32) dL_law_494 rfl ?_
      refine g_iadd C dL_law_495 ?_
      refine g_sld C hb dL_law_496 (fun _ => ?_)
      refine g_aload_n C dL_law_497 0 rfl rfl ?_
      refine g_iload_n C dL_law_498 3 rfl rfl ?_
      refine g_iconst C (2 : Int32) dL_law_499 rfl ?_
      refine g_iadd C dL_law_500 ?_
      refine g_sld C hb dL_law_501 (fun _ => ?_)
      refine g_aload_n C dL_law_502 0 rfl rfl ?_
      refine g_iload_n C dL_law_503 3 rfl rfl ?_
      refine g_iconst C (3 : Int32) dL_law_504 rfl ?_
      refine g_iadd C dL_law_505 ?_
      refine g_sld C hb dL_law_506 (fun _ => ?_)
      refine g_callVi C cv_X9_customer (ct_X9_customer a2 (xs (x3 + (1 : Int32)).toNatClampNeg) (xs (x3 + (2 : Int32)).toNatClampNeg) (xs (x3 + (3 : Int32)).toNatClampNeg) h2 m42) q_1050 h2 (by decide) rfl rfl (Nat.le_of_ble_eq_true rfl) dL_law_507 (fun r43 m44 => ?_)
      refine g_icmp_eq C 1428 dL_law_510 (by decide) (fun _ => ?_) (fun _ => ?_)
      · refine g_sub [0, 1, 2, 3] rfl ?_
        exact s_law_J1428 C hb hlr hk18 a1 a2 x3 h1 h2 m44
      · refine g_iconst C (0 : Int32) dL_law_513 rfl ?_
        exact g_none
    refine g_tsw C 515 dL_law_33 (by decide) rfl (by decide) ?_ (fun e50 => ?_)
    · refine g_aload_n C dL_law_515 1 rfl rfl ?_
      refine g_aload_n C dL_law_516 0 rfl rfl ?_
      refine g_iload_n C dL_law_517 3 rfl rfl ?_
      refine g_iconst C (1 : Int32) dL_law_518 rfl ?_
      refine g_iadd C dL_law_519 ?_
      refine g_sld C hb dL_law_520 (fun _ => ?_)
      refine g_aload_n C dL_law_521 0 rfl rfl ?_
      refine g_iload_n C dL_law_522 3 rfl rfl ?_
      refine g_iconst C (2 : Int32) dL_law_523 rfl ?_
      refine g_iadd C dL_law_524 ?_
      refine g_sld C hb dL_law_525 (fun _ => ?_)
      refine g_callVi C cv_X8_customerIs (ct_X8_customerIs a1 (xs (x3 + (1 : Int32)).toNatClampNeg) (xs (x3 + (2 : Int32)).toNatClampNeg) h1 m0) q_459 h1 (by decide) rfl rfl (Nat.le_of_ble_eq_true rfl) dL_law_526 (fun r46 m47 => ?_)
      refine g_aload_n C dL_law_529 2 rfl rfl ?_
      refine g_aload_n C dL_law_530 0 rfl rfl ?_
      refine g_iload_n C dL_law_531 3 rfl rfl ?_
      refine g_iconst C (1 : Int32) dL_law_532 rfl ?_
      refine g_iadd C dL_law_533 ?_
      refine g_sld C hb dL_law_534 (fun _ => ?_)
      refine g_aload_n C dL_law_535 0 rfl rfl ?_
      refine g_iload_n C dL_law_536 3 rfl rfl ?_
      refine g_iconst C (2 : Int32) dL_law_537 rfl ?_
      refine g_iadd C dL_law_538 ?_
      refine g_sld C hb dL_law_539 (fun _ => ?_)
      refine g_callVi C cv_X9_customerIs (ct_X9_customerIs a2 (xs (x3 + (1 : Int32)).toNatClampNeg) (xs (x3 + (2 : Int32)).toNatClampNeg) h2 m47) q_1061 h2 (by decide) rfl rfl (Nat.le_of_ble_eq_true rfl) dL_law_540 (fun r48 m49 => ?_)
      refine g_icmp_eq C 1428 dL_law_543 (by decide) (fun _ => ?_) (fun _ => ?_)
      · refine g_sub [0, 1, 2, 3] rfl ?_
        exact s_law_J1428 C hb hlr hk18 a1 a2 x3 h1 h2 m49
      · refine g_iconst C (0 : Int32) dL_law_546 rfl ?_
        exact g_none
    refine g_tsw C 548 dL_law_33 (by decide) rfl (by decide) ?_ (fun e55 => ?_)
    · refine g_aload_n C dL_law_548 1 rfl rfl ?_
      refine g_callVi C cv_X8_leave (ct_X8_leave a1 h1 m0) q_467 h1 (by decide) rfl rfl (Nat.le_of_ble_eq_true rfl) dL_law_549 (fun r51 m52 => ?_)
      refine g_aload_n C dL_law_552 2 rfl rfl ?_
      refine g_callVi C cv_X9_leave (ct_X9_leave a2 h2 m52) q_1073 h2 (by decide) rfl rfl (Nat.le_of_ble_eq_true rfl) dL_law_553 (fun r53 m54 => ?_)
      refine g_icmp_eq C 1428 dL_law_556 (by decide) (fun _ => ?_) (fun _ => ?_)
      · refine g_sub [0, 1, 2, 3] rfl ?_
        exact s_law_J1428 C hb hlr hk18 a1 a2 x3 h1 h2 m54
      · refine g_iconst C (0 : Int32) dL_law_559 rfl ?_
        exact g_none
    refine g_tsw C 561 dL_law_33 (by decide) rfl (by decide) ?_ (fun e60 => ?_)
    · refine g_aload_n C dL_law_561 1 rfl rfl ?_
      refine g_aload_n C dL_law_562 0 rfl rfl ?_
      refine g_iload_n C dL_law_563 3 rfl rfl ?_
      refine g_iconst C (1 : Int32) dL_law_564 rfl ?_
      refine g_iadd C dL_law_565 ?_
      refine g_sld C hb dL_law_566 (fun _ => ?_)
      refine g_i2l C dL_law_567 ?_
      refine g_bipush C (32 : Int32) dL_law_568 rfl ?_
      refine g_lshl C dL_law_570 ?_
      refine g_aload_n C dL_law_571 0 rfl rfl ?_
      refine g_iload_n C dL_law_572 3 rfl rfl ?_
      refine g_iconst C (2 : Int32) dL_law_573 rfl ?_
      refine g_iadd C dL_law_574 ?_
      refine g_sld C hb dL_law_575 (fun _ => ?_)
      refine g_i2l C dL_law_576 ?_
      refine g_ldc2 (v := (4294967295 : Int64)) C q_1383 dL_law_577 ?_
      refine g_land C dL_law_580 ?_
      refine g_lor C dL_law_581 ?_
      refine g_aload_n C dL_law_582 0 rfl rfl ?_
      refine g_iload_n C dL_law_583 3 rfl rfl ?_
      refine g_iconst C (3 : Int32) dL_law_584 rfl ?_
      refine g_iadd C dL_law_585 ?_
      refine g_sld C hb dL_law_586 (fun _ => ?_)
      refine g_callVi C cv_X8_feed (ct_X8_feed a1 ((lsl ((xs (x3 + (1 : Int32)).toNatClampNeg).toInt64) (32 : Int32)) ||| (((xs (x3 + (2 : Int32)).toNatClampNeg).toInt64) &&& (4294967295 : Int64))) (xs (x3 + (3 : Int32)).toNatClampNeg) h1 m0) q_471 h1 (by decide) rfl rfl (Nat.le_of_ble_eq_true rfl) dL_law_587 (fun r56 m57 => ?_)
      refine g_aload_n C dL_law_590 2 rfl rfl ?_
      refine g_aload_n C dL_law_591 0 rfl rfl ?_
      refine g_iload_n C dL_law_592 3 rfl rfl ?_
      refine g_iconst C (1 : Int32) dL_law_593 rfl ?_
      refine g_iadd C dL_law_594 ?_
      refine g_sld C hb dL_law_595 (fun _ => ?_)
      refine g_i2l C dL_law_596 ?_
      refine g_bipush C (32 : Int32) dL_law_597 rfl ?_
      refine g_lshl C dL_law_599 ?_
      refine g_aload_n C dL_law_600 0 rfl rfl ?_
      refine g_iload_n C dL_law_601 3 rfl rfl ?_
      refine g_iconst C (2 : Int32) dL_law_602 rfl ?_
      refine g_iadd C dL_law_603 ?_
      refine g_sld C hb dL_law_604 (fun _ => ?_)
      refine g_i2l C dL_law_605 ?_
      refine g_ldc2 (v := (4294967295 : Int64)) C q_1383 dL_law_606 ?_
      refine g_land C dL_law_609 ?_
      refine g_lor C dL_law_610 ?_
      refine g_aload_n C dL_law_611 0 rfl rfl ?_
      refine g_iload_n C dL_law_612 3 rfl rfl ?_
      refine g_iconst C (3 : Int32) dL_law_613 rfl ?_
      refine g_iadd C dL_law_614 ?_
      refine g_sld C hb dL_law_615 (fun _ => ?_)
      refine g_callVi C cv_X9_feed (ct_X9_feed a2 ((lsl ((xs (x3 + (1 : Int32)).toNatClampNeg).toInt64) (32 : Int32)) ||| (((xs (x3 + (2 : Int32)).toNatClampNeg).toInt64) &&& (4294967295 : Int64))) (xs (x3 + (3 : Int32)).toNatClampNeg) h2 m57) q_1077 h2 (by decide) rfl rfl (Nat.le_of_ble_eq_true rfl) dL_law_616 (fun r58 m59 => ?_)
      refine g_icmp_eq C 1428 dL_law_619 (by decide) (fun _ => ?_) (fun _ => ?_)
      · refine g_sub [0, 1, 2, 3] rfl ?_
        exact s_law_J1428 C hb hlr hk18 a1 a2 x3 h1 h2 m59
      · refine g_iconst C (0 : Int32) dL_law_622 rfl ?_
        exact g_none
    refine g_tsw C 624 dL_law_33 (by decide) rfl (by decide) ?_ (fun e65 => ?_)
    · refine g_aload_n C dL_law_624 1 rfl rfl ?_
      refine g_aload_n C dL_law_625 0 rfl rfl ?_
      refine g_iload_n C dL_law_626 3 rfl rfl ?_
      refine g_iconst C (1 : Int32) dL_law_627 rfl ?_
      refine g_iadd C dL_law_628 ?_
      refine g_sld C hb dL_law_629 (fun _ => ?_)
      refine g_callVi C cv_X8_text (ct_X8_text a1 (xs (x3 + (1 : Int32)).toNatClampNeg) h1 m0) q_475 h1 (by decide) rfl rfl (Nat.le_of_ble_eq_true rfl) dL_law_630 (fun r61 m62 => ?_)
      refine g_aload_n C dL_law_633 2 rfl rfl ?_
      refine g_aload_n C dL_law_634 0 rfl rfl ?_
      refine g_iload_n C dL_law_635 3 rfl rfl ?_
      refine g_iconst C (1 : Int32) dL_law_636 rfl ?_
      refine g_iadd C dL_law_637 ?_
      refine g_sld C hb dL_law_638 (fun _ => ?_)
      refine g_callVi C cv_X9_text (ct_X9_text a2 (xs (x3 + (1 : Int32)).toNatClampNeg) h2 m62) q_1082 h2 (by decide) rfl rfl (Nat.le_of_ble_eq_true rfl) dL_law_639 (fun r63 m64 => ?_)
      refine g_icmp_eq C 1428 dL_law_642 (by decide) (fun _ => ?_) (fun _ => ?_)
      · refine g_sub [0, 1, 2, 3] rfl ?_
        exact s_law_J1428 C hb hlr hk18 a1 a2 x3 h1 h2 m64
      · refine g_iconst C (0 : Int32) dL_law_645 rfl ?_
        exact g_none
    refine g_tsw C 647 dL_law_33 (by decide) rfl (by decide) ?_ (fun e70 => ?_)
    · refine g_aload_n C dL_law_647 1 rfl rfl ?_
      refine g_aload_n C dL_law_648 0 rfl rfl ?_
      refine g_iload_n C dL_law_649 3 rfl rfl ?_
      refine g_iconst C (1 : Int32) dL_law_650 rfl ?_
      refine g_iadd C dL_law_651 ?_
      refine g_sld C hb dL_law_652 (fun _ => ?_)
      refine g_callVi C cv_X8_untell (ct_X8_untell a1 (xs (x3 + (1 : Int32)).toNatClampNeg) h1 m0) q_618 h1 (by decide) rfl rfl (Nat.le_of_ble_eq_true rfl) dL_law_653 (fun r66 m67 => ?_)
      refine g_aload_n C dL_law_656 2 rfl rfl ?_
      refine g_aload_n C dL_law_657 0 rfl rfl ?_
      refine g_iload_n C dL_law_658 3 rfl rfl ?_
      refine g_iconst C (1 : Int32) dL_law_659 rfl ?_
      refine g_iadd C dL_law_660 ?_
      refine g_sld C hb dL_law_661 (fun _ => ?_)
      refine g_callVi C cv_X9_untell (ct_X9_untell a2 (xs (x3 + (1 : Int32)).toNatClampNeg) h2 m67) q_1126 h2 (by decide) rfl rfl (Nat.le_of_ble_eq_true rfl) dL_law_662 (fun r68 m69 => ?_)
      refine g_icmp_eq C 1428 dL_law_665 (by decide) (fun _ => ?_) (fun _ => ?_)
      · refine g_sub [0, 1, 2, 3] rfl ?_
        exact s_law_J1428 C hb hlr hk18 a1 a2 x3 h1 h2 m69
      · refine g_iconst C (0 : Int32) dL_law_668 rfl ?_
        exact g_none
    refine g_tsw C 670 dL_law_33 (by decide) rfl (by decide) ?_ (fun e75 => ?_)
    · refine g_aload_n C dL_law_670 1 rfl rfl ?_
      refine g_callVi C cv_X8_morning (ct_X8_morning a1 h1 m0) q_623 h1 (by decide) rfl rfl (Nat.le_of_ble_eq_true rfl) dL_law_671 (fun r71 m72 => ?_)
      refine g_aload_n C dL_law_674 2 rfl rfl ?_
      refine g_callVi C cv_X9_morning (ct_X9_morning a2 h2 m72) q_1168 h2 (by decide) rfl rfl (Nat.le_of_ble_eq_true rfl) dL_law_675 (fun r73 m74 => ?_)
      refine g_icmp_eq C 1428 dL_law_678 (by decide) (fun _ => ?_) (fun _ => ?_)
      · refine g_sub [0, 1, 2, 3] rfl ?_
        exact s_law_J1428 C hb hlr hk18 a1 a2 x3 h1 h2 m74
      · refine g_iconst C (0 : Int32) dL_law_681 rfl ?_
        exact g_none
    refine g_tsw C 683 dL_law_33 (by decide) rfl (by decide) ?_ (fun e80 => ?_)
    · refine g_aload_n C dL_law_683 1 rfl rfl ?_
      refine g_aload_n C dL_law_684 0 rfl rfl ?_
      refine g_iload_n C dL_law_685 3 rfl rfl ?_
      refine g_iconst C (1 : Int32) dL_law_686 rfl ?_
      refine g_iadd C dL_law_687 ?_
      refine g_sld C hb dL_law_688 (fun _ => ?_)
      refine g_callVi C cv_X8_visit (ct_X8_visit a1 (xs (x3 + (1 : Int32)).toNatClampNeg) h1 m0) q_665 h1 (by decide) rfl rfl (Nat.le_of_ble_eq_true rfl) dL_law_689 (fun r76 m77 => ?_)
      refine g_aload_n C dL_law_692 2 rfl rfl ?_
      refine g_aload_n C dL_law_693 0 rfl rfl ?_
      refine g_iload_n C dL_law_694 3 rfl rfl ?_
      refine g_iconst C (1 : Int32) dL_law_695 rfl ?_
      refine g_iadd C dL_law_696 ?_
      refine g_sld C hb dL_law_697 (fun _ => ?_)
      refine g_callVi C cv_X9_visit (ct_X9_visit a2 (xs (x3 + (1 : Int32)).toNatClampNeg) h2 m77) q_1198 h2 (by decide) rfl rfl (Nat.le_of_ble_eq_true rfl) dL_law_698 (fun r78 m79 => ?_)
      refine g_icmp_eq C 1428 dL_law_701 (by decide) (fun _ => ?_) (fun _ => ?_)
      · refine g_sub [0, 1, 2, 3] rfl ?_
        exact s_law_J1428 C hb hlr hk18 a1 a2 x3 h1 h2 m79
      · refine g_iconst C (0 : Int32) dL_law_704 rfl ?_
        exact g_none
    refine g_tsw C 706 dL_law_33 (by decide) rfl (by decide) ?_ (fun e85 => ?_)
    · refine g_aload_n C dL_law_706 1 rfl rfl ?_
      refine g_aload_n C dL_law_707 0 rfl rfl ?_
      refine g_iload_n C dL_law_708 3 rfl rfl ?_
      refine g_iconst C (1 : Int32) dL_law_709 rfl ?_
      refine g_iadd C dL_law_710 ?_
      refine g_sld C hb dL_law_711 (fun _ => ?_)
      refine g_callVi C cv_X8_days (ct_X8_days a1 (xs (x3 + (1 : Int32)).toNatClampNeg) h1 m0) q_677 h1 (by decide) rfl rfl (Nat.le_of_ble_eq_true rfl) dL_law_712 (fun r81 m82 => ?_)
      refine g_aload_n C dL_law_715 2 rfl rfl ?_
      refine g_aload_n C dL_law_716 0 rfl rfl ?_
      refine g_iload_n C dL_law_717 3 rfl rfl ?_
      refine g_iconst C (1 : Int32) dL_law_718 rfl ?_
      refine g_iadd C dL_law_719 ?_
      refine g_sld C hb dL_law_720 (fun _ => ?_)
      refine g_callVi C cv_X9_days (ct_X9_days a2 (xs (x3 + (1 : Int32)).toNatClampNeg) h2 m82) q_1210 h2 (by decide) rfl rfl (Nat.le_of_ble_eq_true rfl) dL_law_721 (fun r83 m84 => ?_)
      refine g_icmp_eq C 1428 dL_law_724 (by decide) (fun _ => ?_) (fun _ => ?_)
      · refine g_sub [0, 1, 2, 3] rfl ?_
        exact s_law_J1428 C hb hlr hk18 a1 a2 x3 h1 h2 m84
      · refine g_iconst C (0 : Int32) dL_law_727 rfl ?_
        exact g_none
    refine g_tsw C 729 dL_law_33 (by decide) rfl (by decide) ?_ (fun e90 => ?_)
    · refine g_aload_n C dL_law_729 1 rfl rfl ?_
      refine g_aload_n C dL_law_730 0 rfl rfl ?_
      refine g_iload_n C dL_law_731 3 rfl rfl ?_
      refine g_iconst C (1 : Int32) dL_law_732 rfl ?_
      refine g_iadd C dL_law_733 ?_
      refine g_sld C hb dL_law_734 (fun _ => ?_)
      refine g_callVi C cv_X8_loose (ct_X8_loose a1 (xs (x3 + (1 : Int32)).toNatClampNeg) h1 m0) q_702 h1 (by decide) rfl rfl (Nat.le_of_ble_eq_true rfl) dL_law_735 (fun r86 m87 => ?_)
      refine g_aload_n C dL_law_738 2 rfl rfl ?_
      refine g_aload_n C dL_law_739 0 rfl rfl ?_
      refine g_iload_n C dL_law_740 3 rfl rfl ?_
      refine g_iconst C (1 : Int32) dL_law_741 rfl ?_
      refine g_iadd C dL_law_742 ?_
      refine g_sld C hb dL_law_743 (fun _ => ?_)
      refine g_callVi C cv_X9_loose (ct_X9_loose a2 (xs (x3 + (1 : Int32)).toNatClampNeg) h2 m87) q_1230 h2 (by decide) rfl rfl (Nat.le_of_ble_eq_true rfl) dL_law_744 (fun r88 m89 => ?_)
      refine g_icmp_eq C 1428 dL_law_747 (by decide) (fun _ => ?_) (fun _ => ?_)
      · refine g_sub [0, 1, 2, 3] rfl ?_
        exact s_law_J1428 C hb hlr hk18 a1 a2 x3 h1 h2 m89
      · refine g_iconst C (0 : Int32) dL_law_750 rfl ?_
        exact g_none
    refine g_tsw C 752 dL_law_33 (by decide) rfl (by decide) ?_ (fun e95 => ?_)
    · refine g_aload_n C dL_law_752 1 rfl rfl ?_
      refine g_aload_n C dL_law_753 0 rfl rfl ?_
      refine g_iload_n C dL_law_754 3 rfl rfl ?_
      refine g_iconst C (1 : Int32) dL_law_755 rfl ?_
      refine g_iadd C dL_law_756 ?_
      refine g_sld C hb dL_law_757 (fun _ => ?_)
      refine g_callVi C cv_X8_seed (ct_X8_seed a1 (xs (x3 + (1 : Int32)).toNatClampNeg) h1 m0) q_706 h1 (by decide) rfl rfl (Nat.le_of_ble_eq_true rfl) dL_law_758 (fun r91 m92 => ?_)
      refine g_aload_n C dL_law_761 2 rfl rfl ?_
      refine g_aload_n C dL_law_762 0 rfl rfl ?_
      refine g_iload_n C dL_law_763 3 rfl rfl ?_
      refine g_iconst C (1 : Int32) dL_law_764 rfl ?_
      refine g_iadd C dL_law_765 ?_
      refine g_sld C hb dL_law_766 (fun _ => ?_)
      refine g_callVi C cv_X9_seed (ct_X9_seed a2 (xs (x3 + (1 : Int32)).toNatClampNeg) h2 m92) q_1234 h2 (by decide) rfl rfl (Nat.le_of_ble_eq_true rfl) dL_law_767 (fun r93 m94 => ?_)
      refine g_icmp_eq C 1428 dL_law_770 (by decide) (fun _ => ?_) (fun _ => ?_)
      · refine g_sub [0, 1, 2, 3] rfl ?_
        exact s_law_J1428 C hb hlr hk18 a1 a2 x3 h1 h2 m94
      · refine g_iconst C (0 : Int32) dL_law_773 rfl ?_
        exact g_none
    refine g_tsw C 775 dL_law_33 (by decide) rfl (by decide) ?_ (fun e100 => ?_)
    · refine g_aload_n C dL_law_775 1 rfl rfl ?_
      refine g_aload_n C dL_law_776 0 rfl rfl ?_
      refine g_iload_n C dL_law_777 3 rfl rfl ?_
      refine g_iconst C (1 : Int32) dL_law_778 rfl ?_
      refine g_iadd C dL_law_779 ?_
      refine g_sld C hb dL_law_780 (fun _ => ?_)
      refine g_aload_n C dL_law_781 0 rfl rfl ?_
      refine g_iload_n C dL_law_782 3 rfl rfl ?_
      refine g_iconst C (2 : Int32) dL_law_783 rfl ?_
      refine g_iadd C dL_law_784 ?_
      refine g_sld C hb dL_law_785 (fun _ => ?_)
      refine g_aload_n C dL_law_786 0 rfl rfl ?_
      refine g_iload_n C dL_law_787 3 rfl rfl ?_
      refine g_iconst C (3 : Int32) dL_law_788 rfl ?_
      refine g_iadd C dL_law_789 ?_
      refine g_sld C hb dL_law_790 (fun _ => ?_)
      refine g_callVi C cv_X8_then (ct_X8_then a1 (xs (x3 + (1 : Int32)).toNatClampNeg) (xs (x3 + (2 : Int32)).toNatClampNeg) (xs (x3 + (3 : Int32)).toNatClampNeg) h1 m0) q_710 h1 (by decide) rfl rfl (Nat.le_of_ble_eq_true rfl) dL_law_791 (fun r96 m97 => ?_)
      refine g_aload_n C dL_law_794 2 rfl rfl ?_
      refine g_aload_n C dL_law_795 0 rfl rfl ?_
      refine g_iload_n C dL_law_796 3 rfl rfl ?_
      refine g_iconst C (1 : Int32) dL_law_797 rfl ?_
      refine g_iadd C dL_law_798 ?_
      refine g_sld C hb dL_law_799 (fun _ => ?_)
      refine g_aload_n C dL_law_800 0 rfl rfl ?_
      refine g_iload_n C dL_law_801 3 rfl rfl ?_
      refine g_iconst C (2 : Int32) dL_law_802 rfl ?_
      refine g_iadd C dL_law_803 ?_
      refine g_sld C hb dL_law_804 (fun _ => ?_)
      refine g_aload_n C dL_law_805 0 rfl rfl ?_
      refine g_iload_n C dL_law_806 3 rfl rfl ?_
      refine g_iconst C (3 : Int32) dL_law_807 rfl ?_
      refine g_iadd C dL_law_808 ?_
      refine g_sld C hb dL_law_809 (fun _ => ?_)
      refine g_callVi C cv_X9_then (ct_X9_then a2 (xs (x3 + (1 : Int32)).toNatClampNeg) (xs (x3 + (2 : Int32)).toNatClampNeg) (xs (x3 + (3 : Int32)).toNatClampNeg) h2 m97) q_1238 h2 (by decide) rfl rfl (Nat.le_of_ble_eq_true rfl) dL_law_810 (fun r98 m99 => ?_)
      refine g_icmp_eq C 1428 dL_law_813 (by decide) (fun _ => ?_) (fun _ => ?_)
      · refine g_sub [0, 1, 2, 3] rfl ?_
        exact s_law_J1428 C hb hlr hk18 a1 a2 x3 h1 h2 m99
      · refine g_iconst C (0 : Int32) dL_law_816 rfl ?_
        exact g_none
    refine g_tsw C 818 dL_law_33 (by decide) rfl (by decide) ?_ (fun e105 => ?_)
    · refine g_aload_n C dL_law_818 1 rfl rfl ?_
      refine g_aload_n C dL_law_819 0 rfl rfl ?_
      refine g_iload_n C dL_law_820 3 rfl rfl ?_
      refine g_iconst C (1 : Int32) dL_law_821 rfl ?_
      refine g_iadd C dL_law_822 ?_
      refine g_sld C hb dL_law_823 (fun _ => ?_)
      refine g_aload_n C dL_law_824 0 rfl rfl ?_
      refine g_iload_n C dL_law_825 3 rfl rfl ?_
      refine g_iconst C (2 : Int32) dL_law_826 rfl ?_
      refine g_iadd C dL_law_827 ?_
      refine g_sld C hb dL_law_828 (fun _ => ?_)
      refine g_aload_n C dL_law_829 0 rfl rfl ?_
      refine g_iload_n C dL_law_830 3 rfl rfl ?_
      refine g_iconst C (3 : Int32) dL_law_831 rfl ?_
      refine g_iadd C dL_law_832 ?_
      refine g_sld C hb dL_law_833 (fun _ => ?_)
      refine g_callVi C cv_X8_keep (ct_X8_keep a1 (xs (x3 + (1 : Int32)).toNatClampNeg) (xs (x3 + (2 : Int32)).toNatClampNeg) (xs (x3 + (3 : Int32)).toNatClampNeg) h1 m0) q_729 h1 (by decide) rfl rfl (Nat.le_of_ble_eq_true rfl) dL_law_834 (fun r101 m102 => ?_)
      refine g_aload_n C dL_law_837 2 rfl rfl ?_
      refine g_aload_n C dL_law_838 0 rfl rfl ?_
      refine g_iload_n C dL_law_839 3 rfl rfl ?_
      refine g_iconst C (1 : Int32) dL_law_840 rfl ?_
      refine g_iadd C dL_law_841 ?_
      refine g_sld C hb dL_law_842 (fun _ => ?_)
      refine g_aload_n C dL_law_843 0 rfl rfl ?_
      refine g_iload_n C dL_law_844 3 rfl rfl ?_
      refine g_iconst C (2 : Int32) dL_law_845 rfl ?_
      refine g_iadd C dL_law_846 ?_
      refine g_sld C hb dL_law_847 (fun _ => ?_)
      refine g_aload_n C dL_law_848 0 rfl rfl ?_
      refine g_iload_n C dL_law_849 3 rfl rfl ?_
      refine g_iconst C (3 : Int32) dL_law_850 rfl ?_
      refine g_iadd C dL_law_851 ?_
      refine g_sld C hb dL_law_852 (fun _ => ?_)
      refine g_callVi C cv_X9_keep (ct_X9_keep a2 (xs (x3 + (1 : Int32)).toNatClampNeg) (xs (x3 + (2 : Int32)).toNatClampNeg) (xs (x3 + (3 : Int32)).toNatClampNeg) h2 m102) q_1245 h2 (by decide) rfl rfl (Nat.le_of_ble_eq_true rfl) dL_law_853 (fun r103 m104 => ?_)
      refine g_icmp_eq C 1428 dL_law_856 (by decide) (fun _ => ?_) (fun _ => ?_)
      · refine g_sub [0, 1, 2, 3] rfl ?_
        exact s_law_J1428 C hb hlr hk18 a1 a2 x3 h1 h2 m104
      · refine g_iconst C (0 : Int32) dL_law_859 rfl ?_
        exact g_none
    refine g_tsw C 861 dL_law_33 (by decide) rfl (by decide) ?_ (fun e110 => ?_)
    · refine g_aload_n C dL_law_861 1 rfl rfl ?_
      refine g_aload_n C dL_law_862 0 rfl rfl ?_
      refine g_iload_n C dL_law_863 3 rfl rfl ?_
      refine g_iconst C (1 : Int32) dL_law_864 rfl ?_
      refine g_iadd C dL_law_865 ?_
      refine g_sld C hb dL_law_866 (fun _ => ?_)
      refine g_aload_n C dL_law_867 0 rfl rfl ?_
      refine g_iload_n C dL_law_868 3 rfl rfl ?_
      refine g_iconst C (2 : Int32) dL_law_869 rfl ?_
      refine g_iadd C dL_law_870 ?_
      refine g_sld C hb dL_law_871 (fun _ => ?_)
      refine g_callVi C cv_X8_range (ct_X8_range a1 (xs (x3 + (1 : Int32)).toNatClampNeg) (xs (x3 + (2 : Int32)).toNatClampNeg) h1 m0) q_734 h1 (by decide) rfl rfl (Nat.le_of_ble_eq_true rfl) dL_law_872 (fun r106 m107 => ?_)
      refine g_aload_n C dL_law_875 2 rfl rfl ?_
      refine g_aload_n C dL_law_876 0 rfl rfl ?_
      refine g_iload_n C dL_law_877 3 rfl rfl ?_
      refine g_iconst C (1 : Int32) dL_law_878 rfl ?_
      refine g_iadd C dL_law_879 ?_
      refine g_sld C hb dL_law_880 (fun _ => ?_)
      refine g_aload_n C dL_law_881 0 rfl rfl ?_
      refine g_iload_n C dL_law_882 3 rfl rfl ?_
      refine g_iconst C (2 : Int32) dL_law_883 rfl ?_
      refine g_iadd C dL_law_884 ?_
      refine g_sld C hb dL_law_885 (fun _ => ?_)
      refine g_callVi C cv_X9_range (ct_X9_range a2 (xs (x3 + (1 : Int32)).toNatClampNeg) (xs (x3 + (2 : Int32)).toNatClampNeg) h2 m107) q_1249 h2 (by decide) rfl rfl (Nat.le_of_ble_eq_true rfl) dL_law_886 (fun r108 m109 => ?_)
      refine g_icmp_eq C 1428 dL_law_889 (by decide) (fun _ => ?_) (fun _ => ?_)
      · refine g_sub [0, 1, 2, 3] rfl ?_
        exact s_law_J1428 C hb hlr hk18 a1 a2 x3 h1 h2 m109
      · refine g_iconst C (0 : Int32) dL_law_892 rfl ?_
        exact g_none
    refine g_tsw C 894 dL_law_33 (by decide) rfl (by decide) ?_ (fun e115 => ?_)
    · refine g_aload_n C dL_law_894 1 rfl rfl ?_
      refine g_aload_n C dL_law_895 0 rfl rfl ?_
      refine g_iload_n C dL_law_896 3 rfl rfl ?_
      refine g_iconst C (1 : Int32) dL_law_897 rfl ?_
      refine g_iadd C dL_law_898 ?_
      refine g_sld C hb dL_law_899 (fun _ => ?_)
      refine g_aload_n C dL_law_900 0 rfl rfl ?_
      refine g_iload_n C dL_law_901 3 rfl rfl ?_
      refine g_iconst C (2 : Int32) dL_law_902 rfl ?_
      refine g_iadd C dL_law_903 ?_
      refine g_sld C hb dL_law_904 (fun _ => ?_)
      refine g_callVi C cv_X8_turn (ct_X8_turn a1 (xs (x3 + (1 : Int32)).toNatClampNeg) (xs (x3 + (2 : Int32)).toNatClampNeg) h1 m0) q_743 h1 (by decide) rfl rfl (Nat.le_of_ble_eq_true rfl) dL_law_905 (fun r111 m112 => ?_)
      refine g_aload_n C dL_law_908 2 rfl rfl ?_
      refine g_aload_n C dL_law_909 0 rfl rfl ?_
      refine g_iload_n C dL_law_910 3 rfl rfl ?_
      refine g_iconst C (1 : Int32) dL_law_911 rfl ?_
      refine g_iadd C dL_law_912 ?_
      refine g_sld C hb dL_law_913 (fun _ => ?_)
      refine g_aload_n C dL_law_914 0 rfl rfl ?_
      refine g_iload_n C dL_law_915 3 rfl rfl ?_
      refine g_iconst C (2 : Int32) dL_law_916 rfl ?_
      refine g_iadd C dL_law_917 ?_
      refine g_sld C hb dL_law_918 (fun _ => ?_)
      refine g_callVi C cv_X9_turn (ct_X9_turn a2 (xs (x3 + (1 : Int32)).toNatClampNeg) (xs (x3 + (2 : Int32)).toNatClampNeg) h2 m112) q_1257 h2 (by decide) rfl rfl (Nat.le_of_ble_eq_true rfl) dL_law_919 (fun r113 m114 => ?_)
      refine g_icmp_eq C 1428 dL_law_922 (by decide) (fun _ => ?_) (fun _ => ?_)
      · refine g_sub [0, 1, 2, 3] rfl ?_
        exact s_law_J1428 C hb hlr hk18 a1 a2 x3 h1 h2 m114
      · refine g_iconst C (0 : Int32) dL_law_925 rfl ?_
        exact g_none
    refine g_tsw C 927 dL_law_33 (by decide) rfl (by decide) ?_ (fun e120 => ?_)
    · refine g_aload_n C dL_law_927 1 rfl rfl ?_
      refine g_aload_n C dL_law_928 0 rfl rfl ?_
      refine g_iload_n C dL_law_929 3 rfl rfl ?_
      refine g_iconst C (1 : Int32) dL_law_930 rfl ?_
      refine g_iadd C dL_law_931 ?_
      refine g_sld C hb dL_law_932 (fun _ => ?_)
      refine g_aload_n C dL_law_933 0 rfl rfl ?_
      refine g_iload_n C dL_law_934 3 rfl rfl ?_
      refine g_iconst C (2 : Int32) dL_law_935 rfl ?_
      refine g_iadd C dL_law_936 ?_
      refine g_sld C hb dL_law_937 (fun _ => ?_)
      refine g_callVi C cv_X8_out (ct_X8_out a1 (xs (x3 + (1 : Int32)).toNatClampNeg) (xs (x3 + (2 : Int32)).toNatClampNeg) h1 m0) q_751 h1 (by decide) rfl rfl (Nat.le_of_ble_eq_true rfl) dL_law_938 (fun r116 m117 => ?_)
      refine g_aload_n C dL_law_941 2 rfl rfl ?_
      refine g_aload_n C dL_law_942 0 rfl rfl ?_
      refine g_iload_n C dL_law_943 3 rfl rfl ?_
      refine g_iconst C (1 : Int32) dL_law_944 rfl ?_
      refine g_iadd C dL_law_945 ?_
      refine g_sld C hb dL_law_946 (fun _ => ?_)
      refine g_aload_n C dL_law_947 0 rfl rfl ?_
      refine g_iload_n C dL_law_948 3 rfl rfl ?_
      refine g_iconst C (2 : Int32) dL_law_949 rfl ?_
      refine g_iadd C dL_law_950 ?_
      refine g_sld C hb dL_law_951 (fun _ => ?_)
      refine g_callVi C cv_X9_out (ct_X9_out a2 (xs (x3 + (1 : Int32)).toNatClampNeg) (xs (x3 + (2 : Int32)).toNatClampNeg) h2 m117) q_1265 h2 (by decide) rfl rfl (Nat.le_of_ble_eq_true rfl) dL_law_952 (fun r118 m119 => ?_)
      refine g_icmp_eq C 1428 dL_law_955 (by decide) (fun _ => ?_) (fun _ => ?_)
      · refine g_sub [0, 1, 2, 3] rfl ?_
        exact s_law_J1428 C hb hlr hk18 a1 a2 x3 h1 h2 m119
      · refine g_iconst C (0 : Int32) dL_law_958 rfl ?_
        exact g_none
    refine g_tsw C 960 dL_law_33 (by decide) rfl (by decide) ?_ (fun e125 => ?_)
    · refine g_aload_n C dL_law_960 1 rfl rfl ?_
      refine g_aload_n C dL_law_961 0 rfl rfl ?_
      refine g_iload_n C dL_law_962 3 rfl rfl ?_
      refine g_iconst C (1 : Int32) dL_law_963 rfl ?_
      refine g_iadd C dL_law_964 ?_
      refine g_sld C hb dL_law_965 (fun _ => ?_)
      refine g_aload_n C dL_law_966 0 rfl rfl ?_
      refine g_iload_n C dL_law_967 3 rfl rfl ?_
      refine g_iconst C (2 : Int32) dL_law_968 rfl ?_
      refine g_iadd C dL_law_969 ?_
      refine g_sld C hb dL_law_970 (fun _ => ?_)
      refine g_callVi C cv_X8_joined (ct_X8_joined a1 (xs (x3 + (1 : Int32)).toNatClampNeg) (xs (x3 + (2 : Int32)).toNatClampNeg) h1 m0) q_761 h1 (by decide) rfl rfl (Nat.le_of_ble_eq_true rfl) dL_law_971 (fun r121 m122 => ?_)
      refine g_aload_n C dL_law_974 2 rfl rfl ?_
      refine g_aload_n C dL_law_975 0 rfl rfl ?_
      refine g_iload_n C dL_law_976 3 rfl rfl ?_
      refine g_iconst C (1 : Int32) dL_law_977 rfl ?_
      refine g_iadd C dL_law_978 ?_
      refine g_sld C hb dL_law_979 (fun _ => ?_)
      refine g_aload_n C dL_law_980 0 rfl rfl ?_
      refine g_iload_n C dL_law_981 3 rfl rfl ?_
      refine g_iconst C (2 : Int32) dL_law_982 rfl ?_
      refine g_iadd C dL_law_983 ?_
      refine g_sld C hb dL_law_984 (fun _ => ?_)
      refine g_callVi C cv_X9_joined_ (ct_X9_joined_ a2 (xs (x3 + (1 : Int32)).toNatClampNeg) (xs (x3 + (2 : Int32)).toNatClampNeg) h2 m122) q_1273 h2 (by decide) rfl rfl (Nat.le_of_ble_eq_true rfl) dL_law_985 (fun r123 m124 => ?_)
      refine g_icmp_eq C 1428 dL_law_988 (by decide) (fun _ => ?_) (fun _ => ?_)
      · refine g_sub [0, 1, 2, 3] rfl ?_
        exact s_law_J1428 C hb hlr hk18 a1 a2 x3 h1 h2 m124
      · refine g_iconst C (0 : Int32) dL_law_991 rfl ?_
        exact g_none
    refine g_tsw C 993 dL_law_33 (by decide) rfl (by decide) ?_ (fun e130 => ?_)
    · refine g_aload_n C dL_law_993 1 rfl rfl ?_
      refine g_aload_n C dL_law_994 0 rfl rfl ?_
      refine g_iload_n C dL_law_995 3 rfl rfl ?_
      refine g_iconst C (1 : Int32) dL_law_996 rfl ?_
      refine g_iadd C dL_law_997 ?_
      refine g_sld C hb dL_law_998 (fun _ => ?_)
      refine g_callVi C cv_X8_walk (ct_X8_walk a1 (xs (x3 + (1 : Int32)).toNatClampNeg) h1 m0) q_775 h1 (by decide) rfl rfl (Nat.le_of_ble_eq_true rfl) dL_law_999 (fun r126 m127 => ?_)
      refine g_aload_n C dL_law_1002 2 rfl rfl ?_
      refine g_aload_n C dL_law_1003 0 rfl rfl ?_
      refine g_iload_n C dL_law_1004 3 rfl rfl ?_
      refine g_iconst C (1 : Int32) dL_law_1005 rfl ?_
      refine g_iadd C dL_law_1006 ?_
      refine g_sld C hb dL_law_1007 (fun _ => ?_)
      refine g_callVi C cv_X9_walk (ct_X9_walk a2 (xs (x3 + (1 : Int32)).toNatClampNeg) h2 m127) q_1281 h2 (by decide) rfl rfl (Nat.le_of_ble_eq_true rfl) dL_law_1008 (fun r128 m129 => ?_)
      refine g_icmp_eq C 1428 dL_law_1011 (by decide) (fun _ => ?_) (fun _ => ?_)
      · refine g_sub [0, 1, 2, 3] rfl ?_
        exact s_law_J1428 C hb hlr hk18 a1 a2 x3 h1 h2 m129
      · refine g_iconst C (0 : Int32) dL_law_1014 rfl ?_
        exact g_none
    refine g_tsw C 1016 dL_law_33 (by decide) rfl (by decide) ?_ (fun e135 => ?_)
    · refine g_aload_n C dL_law_1016 1 rfl rfl ?_
      refine g_aload_n C dL_law_1017 0 rfl rfl ?_
      refine g_iload_n C dL_law_1018 3 rfl rfl ?_
      refine g_iconst C (1 : Int32) dL_law_1019 rfl ?_
      refine g_iadd C dL_law_1020 ?_
      refine g_sld C hb dL_law_1021 (fun _ => ?_)
      refine g_aload_n C dL_law_1022 0 rfl rfl ?_
      refine g_iload_n C dL_law_1023 3 rfl rfl ?_
      refine g_iconst C (2 : Int32) dL_law_1024 rfl ?_
      refine g_iadd C dL_law_1025 ?_
      refine g_sld C hb dL_law_1026 (fun _ => ?_)
      refine g_aload_n C dL_law_1027 0 rfl rfl ?_
      refine g_iload_n C dL_law_1028 3 rfl rfl ?_
      refine g_iconst C (3 : Int32) dL_law_1029 rfl ?_
      refine g_iadd C dL_law_1030 ?_
      refine g_sld C hb dL_law_1031 (fun _ => ?_)
      refine g_callVi C cv_X8_voice (ct_X8_voice a1 (xs (x3 + (1 : Int32)).toNatClampNeg) (xs (x3 + (2 : Int32)).toNatClampNeg) (xs (x3 + (3 : Int32)).toNatClampNeg) h1 m0) q_781 h1 (by decide) rfl rfl (Nat.le_of_ble_eq_true rfl) dL_law_1032 (fun r131 m132 => ?_)
      refine g_aload_n C dL_law_1035 2 rfl rfl ?_
      refine g_aload_n C dL_law_1036 0 rfl rfl ?_
      refine g_iload_n C dL_law_1037 3 rfl rfl ?_
      refine g_iconst C (1 : Int32) dL_law_1038 rfl ?_
      refine g_iadd C dL_law_1039 ?_
      refine g_sld C hb dL_law_1040 (fun _ => ?_)
      refine g_aload_n C dL_law_1041 0 rfl rfl ?_
      refine g_iload_n C dL_law_1042 3 rfl rfl ?_
      refine g_iconst C (2 : Int32) dL_law_1043 rfl ?_
      refine g_iadd C dL_law_1044 ?_
      refine g_sld C hb dL_law_1045 (fun _ => ?_)
      refine g_aload_n C dL_law_1046 0 rfl rfl ?_
      refine g_iload_n C dL_law_1047 3 rfl rfl ?_
      refine g_iconst C (3 : Int32) dL_law_1048 rfl ?_
      refine g_iadd C dL_law_1049 ?_
      refine g_sld C hb dL_law_1050 (fun _ => ?_)
      refine g_callVi C cv_X9_voice (ct_X9_voice a2 (xs (x3 + (1 : Int32)).toNatClampNeg) (xs (x3 + (2 : Int32)).toNatClampNeg) (xs (x3 + (3 : Int32)).toNatClampNeg) h2 m132) q_1285 h2 (by decide) rfl rfl (Nat.le_of_ble_eq_true rfl) dL_law_1051 (fun r133 m134 => ?_)
      refine g_icmp_eq C 1428 dL_law_1054 (by decide) (fun _ => ?_) (fun _ => ?_)
      · refine g_sub [0, 1, 2, 3] rfl ?_
        exact s_law_J1428 C hb hlr hk18 a1 a2 x3 h1 h2 m134
      · refine g_iconst C (0 : Int32) dL_law_1057 rfl ?_
        exact g_none
    refine g_tsw C 1059 dL_law_33 (by decide) rfl (by decide) ?_ (fun e140 => ?_)
    · refine g_aload_n C dL_law_1059 1 rfl rfl ?_
      refine g_aload_n C dL_law_1060 0 rfl rfl ?_
      refine g_iload_n C dL_law_1061 3 rfl rfl ?_
      refine g_iconst C (1 : Int32) dL_law_1062 rfl ?_
      refine g_iadd C dL_law_1063 ?_
      refine g_sld C hb dL_law_1064 (fun _ => ?_)
      refine g_callVi C cv_X8_body (ct_X8_body a1 (xs (x3 + (1 : Int32)).toNatClampNeg) h1 m0) q_812 h1 (by decide) rfl rfl (Nat.le_of_ble_eq_true rfl) dL_law_1065 (fun r136 m137 => ?_)
      refine g_aload_n C dL_law_1068 2 rfl rfl ?_
      refine g_aload_n C dL_law_1069 0 rfl rfl ?_
      refine g_iload_n C dL_law_1070 3 rfl rfl ?_
      refine g_iconst C (1 : Int32) dL_law_1071 rfl ?_
      refine g_iadd C dL_law_1072 ?_
      refine g_sld C hb dL_law_1073 (fun _ => ?_)
      refine g_callVi C cv_X9_body (ct_X9_body a2 (xs (x3 + (1 : Int32)).toNatClampNeg) h2 m137) q_1320 h2 (by decide) rfl rfl (Nat.le_of_ble_eq_true rfl) dL_law_1074 (fun r138 m139 => ?_)
      refine g_icmp_eq C 1428 dL_law_1077 (by decide) (fun _ => ?_) (fun _ => ?_)
      · refine g_sub [0, 1, 2, 3] rfl ?_
        exact s_law_J1428 C hb hlr hk18 a1 a2 x3 h1 h2 m139
      · refine g_iconst C (0 : Int32) dL_law_1080 rfl ?_
        exact g_none
    refine g_tsw C 1082 dL_law_33 (by decide) rfl (by decide) ?_ (fun e145 => ?_)
    · refine g_aload_n C dL_law_1082 1 rfl rfl ?_
      refine g_aload_n C dL_law_1083 0 rfl rfl ?_
      refine g_iload_n C dL_law_1084 3 rfl rfl ?_
      refine g_iconst C (1 : Int32) dL_law_1085 rfl ?_
      refine g_iadd C dL_law_1086 ?_
      refine g_sld C hb dL_law_1087 (fun _ => ?_)
      refine g_aload_n C dL_law_1088 0 rfl rfl ?_
      refine g_iload_n C dL_law_1089 3 rfl rfl ?_
      refine g_iconst C (2 : Int32) dL_law_1090 rfl ?_
      refine g_iadd C dL_law_1091 ?_
      refine g_sld C hb dL_law_1092 (fun _ => ?_)
      refine g_aload_n C dL_law_1093 0 rfl rfl ?_
      refine g_iload_n C dL_law_1094 3 rfl rfl ?_
      refine g_iconst C (3 : Int32) dL_law_1095 rfl ?_
      refine g_iadd C dL_law_1096 ?_
      refine g_sld C hb dL_law_1097 (fun _ => ?_)
      refine g_callVi C cv_X8_sheet (ct_X8_sheet a1 (xs (x3 + (1 : Int32)).toNatClampNeg) (xs (x3 + (2 : Int32)).toNatClampNeg) (xs (x3 + (3 : Int32)).toNatClampNeg) h1 m0) q_816 h1 (by decide) rfl rfl (Nat.le_of_ble_eq_true rfl) dL_law_1098 (fun r141 m142 => ?_)
      refine g_aload_n C dL_law_1101 2 rfl rfl ?_
      refine g_aload_n C dL_law_1102 0 rfl rfl ?_
      refine g_iload_n C dL_law_1103 3 rfl rfl ?_
      refine g_iconst C (1 : Int32) dL_law_1104 rfl ?_
      refine g_iadd C dL_law_1105 ?_
      refine g_sld C hb dL_law_1106 (fun _ => ?_)
      refine g_aload_n C dL_law_1107 0 rfl rfl ?_
      refine g_iload_n C dL_law_1108 3 rfl rfl ?_
      refine g_iconst C (2 : Int32) dL_law_1109 rfl ?_
      refine g_iadd C dL_law_1110 ?_
      refine g_sld C hb dL_law_1111 (fun _ => ?_)
      refine g_aload_n C dL_law_1112 0 rfl rfl ?_
      refine g_iload_n C dL_law_1113 3 rfl rfl ?_
      refine g_iconst C (3 : Int32) dL_law_1114 rfl ?_
      refine g_iadd C dL_law_1115 ?_
      refine g_sld C hb dL_law_1116 (fun _ => ?_)
      refine g_callVi C cv_X9_sheet (ct_X9_sheet a2 (xs (x3 + (1 : Int32)).toNatClampNeg) (xs (x3 + (2 : Int32)).toNatClampNeg) (xs (x3 + (3 : Int32)).toNatClampNeg) h2 m142) q_1324 h2 (by decide) rfl rfl (Nat.le_of_ble_eq_true rfl) dL_law_1117 (fun r143 m144 => ?_)
      refine g_icmp_eq C 1428 dL_law_1120 (by decide) (fun _ => ?_) (fun _ => ?_)
      · refine g_sub [0, 1, 2, 3] rfl ?_
        exact s_law_J1428 C hb hlr hk18 a1 a2 x3 h1 h2 m144
      · refine g_iconst C (0 : Int32) dL_law_1123 rfl ?_
        exact g_none
    refine g_tsw C 1125 dL_law_33 (by decide) rfl (by decide) ?_ (fun e150 => ?_)
    · refine g_aload_n C dL_law_1125 1 rfl rfl ?_
      refine g_aload_n C dL_law_1126 0 rfl rfl ?_
      refine g_iload_n C dL_law_1127 3 rfl rfl ?_
      refine g_iconst C (1 : Int32) dL_law_1128 rfl ?_
      refine g_iadd C dL_law_1129 ?_
      refine g_sld C hb dL_law_1130 (fun _ => ?_)
      refine g_aload_n C dL_law_1131 0 rfl rfl ?_
      refine g_iload_n C dL_law_1132 3 rfl rfl ?_
      refine g_iconst C (2 : Int32) dL_law_1133 rfl ?_
      refine g_iadd C dL_law_1134 ?_
      refine g_sld C hb dL_law_1135 (fun _ => ?_)
      refine g_aload_n C dL_law_1136 0 rfl rfl ?_
      refine g_iload_n C dL_law_1137 3 rfl rfl ?_
      refine g_iconst C (3 : Int32) dL_law_1138 rfl ?_
      refine g_iadd C dL_law_1139 ?_
      refine g_sld C hb dL_law_1140 (fun _ => ?_)
      refine g_callVi C cv_X8_put (ct_X8_put a1 (xs (x3 + (1 : Int32)).toNatClampNeg) (xs (x3 + (2 : Int32)).toNatClampNeg) (xs (x3 + (3 : Int32)).toNatClampNeg) h1 m0) q_828 h1 (by decide) rfl rfl (Nat.le_of_ble_eq_true rfl) dL_law_1141 (fun r146 m147 => ?_)
      refine g_aload_n C dL_law_1144 2 rfl rfl ?_
      refine g_aload_n C dL_law_1145 0 rfl rfl ?_
      refine g_iload_n C dL_law_1146 3 rfl rfl ?_
      refine g_iconst C (1 : Int32) dL_law_1147 rfl ?_
      refine g_iadd C dL_law_1148 ?_
      refine g_sld C hb dL_law_1149 (fun _ => ?_)
      refine g_aload_n C dL_law_1150 0 rfl rfl ?_
      refine g_iload_n C dL_law_1151 3 rfl rfl ?_
      refine g_iconst C (2 : Int32) dL_law_1152 rfl ?_
      refine g_iadd C dL_law_1153 ?_
      refine g_sld C hb dL_law_1154 (fun _ => ?_)
      refine g_aload_n C dL_law_1155 0 rfl rfl ?_
      refine g_iload_n C dL_law_1156 3 rfl rfl ?_
      refine g_iconst C (3 : Int32) dL_law_1157 rfl ?_
      refine g_iadd C dL_law_1158 ?_
      refine g_sld C hb dL_law_1159 (fun _ => ?_)
      refine g_callVi C cv_X9_put (ct_X9_put a2 (xs (x3 + (1 : Int32)).toNatClampNeg) (xs (x3 + (2 : Int32)).toNatClampNeg) (xs (x3 + (3 : Int32)).toNatClampNeg) h2 m147) q_1331 h2 (by decide) rfl rfl (Nat.le_of_ble_eq_true rfl) dL_law_1160 (fun r148 m149 => ?_)
      refine g_icmp_eq C 1428 dL_law_1163 (by decide) (fun _ => ?_) (fun _ => ?_)
      · refine g_sub [0, 1, 2, 3] rfl ?_
        exact s_law_J1428 C hb hlr hk18 a1 a2 x3 h1 h2 m149
      · refine g_iconst C (0 : Int32) dL_law_1166 rfl ?_
        exact g_none
    refine g_tsw C 1168 dL_law_33 (by decide) rfl (by decide) ?_ (fun e155 => ?_)
    · refine g_aload_n C dL_law_1168 1 rfl rfl ?_
      refine g_aload_n C dL_law_1169 0 rfl rfl ?_
      refine g_iload_n C dL_law_1170 3 rfl rfl ?_
      refine g_iconst C (1 : Int32) dL_law_1171 rfl ?_
      refine g_iadd C dL_law_1172 ?_
      refine g_sld C hb dL_law_1173 (fun _ => ?_)
      refine g_aload_n C dL_law_1174 0 rfl rfl ?_
      refine g_iload_n C dL_law_1175 3 rfl rfl ?_
      refine g_iconst C (2 : Int32) dL_law_1176 rfl ?_
      refine g_iadd C dL_law_1177 ?_
      refine g_sld C hb dL_law_1178 (fun _ => ?_)
      refine g_aload_n C dL_law_1179 0 rfl rfl ?_
      refine g_iload_n C dL_law_1180 3 rfl rfl ?_
      refine g_iconst C (3 : Int32) dL_law_1181 rfl ?_
      refine g_iadd C dL_law_1182 ?_
      refine g_sld C hb dL_law_1183 (fun _ => ?_)
      refine g_aload_n C dL_law_1184 0 rfl rfl ?_
      refine g_iload_n C dL_law_1185 3 rfl rfl ?_
      refine g_iconst C (4 : Int32) dL_law_1186 rfl ?_
      refine g_iadd C dL_law_1187 ?_
      refine g_sld C hb dL_law_1188 (fun _ => ?_)
      refine g_aload_n C dL_law_1189 0 rfl rfl ?_
      refine g_iload_n C dL_law_1190 3 rfl rfl ?_
      refine g_iconst C (5 : Int32) dL_law_1191 rfl ?_
      refine g_iadd C dL_law_1192 ?_
      refine g_sld C hb dL_law_1193 (fun _ => ?_)
      refine g_callVi C cv_X8_move (ct_X8_move a1 (xs (x3 + (1 : Int32)).toNatClampNeg) (xs (x3 + (2 : Int32)).toNatClampNeg) (xs (x3 + (3 : Int32)).toNatClampNeg) (xs (x3 + (4 : Int32)).toNatClampNeg) (xs (x3 + (5 : Int32)).toNatClampNeg) h1 m0) q_840 h1 (by decide) rfl rfl (Nat.le_of_ble_eq_true rfl) dL_law_1194 (fun r151 m152 => ?_)
      refine g_aload_n C dL_law_1197 2 rfl rfl ?_
      refine g_aload_n C dL_law_1198 0 rfl rfl ?_
      refine g_iload_n C dL_law_1199 3 rfl rfl ?_
      refine g_iconst C (1 : Int32) dL_law_1200 rfl ?_
      refine g_iadd C dL_law_1201 ?_
      refine g_sld C hb dL_law_1202 (fun _ => ?_)
      refine g_aload_n C dL_law_1203 0 rfl rfl ?_
      refine g_iload_n C dL_law_1204 3 rfl rfl ?_
      refine g_iconst C (2 : Int32) dL_law_1205 rfl ?_
      refine g_iadd C dL_law_1206 ?_
      refine g_sld C hb dL_law_1207 (fun _ => ?_)
      refine g_aload_n C dL_law_1208 0 rfl rfl ?_
      refine g_iload_n C dL_law_1209 3 rfl rfl ?_
      refine g_iconst C (3 : Int32) dL_law_1210 rfl ?_
      refine g_iadd C dL_law_1211 ?_
      refine g_sld C hb dL_law_1212 (fun _ => ?_)
      refine g_aload_n C dL_law_1213 0 rfl rfl ?_
      refine g_iload_n C dL_law_1214 3 rfl rfl ?_
      refine g_iconst C (4 : Int32) dL_law_1215 rfl ?_
      refine g_iadd C dL_law_1216 ?_
      refine g_sld C hb dL_law_1217 (fun _ => ?_)
      refine g_aload_n C dL_law_1218 0 rfl rfl ?_
      refine g_iload_n C dL_law_1219 3 rfl rfl ?_
      refine g_iconst C (5 : Int32) dL_law_1220 rfl ?_
      refine g_iadd C dL_law_1221 ?_
      refine g_sld C hb dL_law_1222 (fun _ => ?_)
      refine g_callVi C cv_X9_move (ct_X9_move a2 (xs (x3 + (1 : Int32)).toNatClampNeg) (xs (x3 + (2 : Int32)).toNatClampNeg) (xs (x3 + (3 : Int32)).toNatClampNeg) (xs (x3 + (4 : Int32)).toNatClampNeg) (xs (x3 + (5 : Int32)).toNatClampNeg) h2 m152) q_1335 h2 (by decide) rfl rfl (Nat.le_of_ble_eq_true rfl) dL_law_1223 (fun r153 m154 => ?_)
      refine g_icmp_eq C 1428 dL_law_1226 (by decide) (fun _ => ?_) (fun _ => ?_)
      · refine g_sub [0, 1, 2, 3] rfl ?_
        exact s_law_J1428 C hb hlr hk18 a1 a2 x3 h1 h2 m154
      · refine g_iconst C (0 : Int32) dL_law_1229 rfl ?_
        exact g_none
    refine g_tsw C 1231 dL_law_33 (by decide) rfl (by decide) ?_ (fun e160 => ?_)
    · refine g_aload_n C dL_law_1231 1 rfl rfl ?_
      refine g_aload_n C dL_law_1232 0 rfl rfl ?_
      refine g_iload_n C dL_law_1233 3 rfl rfl ?_
      refine g_iconst C (1 : Int32) dL_law_1234 rfl ?_
      refine g_iadd C dL_law_1235 ?_
      refine g_sld C hb dL_law_1236 (fun _ => ?_)
      refine g_callVi C cv_X8_customers (ct_X8_customers a1 (xs (x3 + (1 : Int32)).toNatClampNeg) h1 m0) q_849 h1 (by decide) rfl rfl (Nat.le_of_ble_eq_true rfl) dL_law_1237 (fun r156 m157 => ?_)
      refine g_aload_n C dL_law_1240 2 rfl rfl ?_
      refine g_aload_n C dL_law_1241 0 rfl rfl ?_
      refine g_iload_n C dL_law_1242 3 rfl rfl ?_
      refine g_iconst C (1 : Int32) dL_law_1243 rfl ?_
      refine g_iadd C dL_law_1244 ?_
      refine g_sld C hb dL_law_1245 (fun _ => ?_)
      refine g_callVi C cv_X9_customers (ct_X9_customers a2 (xs (x3 + (1 : Int32)).toNatClampNeg) h2 m157) q_1339 h2 (by decide) rfl rfl (Nat.le_of_ble_eq_true rfl) dL_law_1246 (fun r158 m159 => ?_)
      refine g_icmp_eq C 1428 dL_law_1249 (by decide) (fun _ => ?_) (fun _ => ?_)
      · refine g_sub [0, 1, 2, 3] rfl ?_
        exact s_law_J1428 C hb hlr hk18 a1 a2 x3 h1 h2 m159
      · refine g_iconst C (0 : Int32) dL_law_1252 rfl ?_
        exact g_none
    refine g_tsw C 1254 dL_law_33 (by decide) rfl (by decide) ?_ (fun e165 => ?_)
    · refine g_aload_n C dL_law_1254 1 rfl rfl ?_
      refine g_aload_n C dL_law_1255 0 rfl rfl ?_
      refine g_iload_n C dL_law_1256 3 rfl rfl ?_
      refine g_iconst C (1 : Int32) dL_law_1257 rfl ?_
      refine g_iadd C dL_law_1258 ?_
      refine g_sld C hb dL_law_1259 (fun _ => ?_)
      refine g_callVi C cv_X8_judge (ct_X8_judge a1 (xs (x3 + (1 : Int32)).toNatClampNeg) h1 m0) q_857 h1 (by decide) rfl rfl (Nat.le_of_ble_eq_true rfl) dL_law_1260 (fun r161 m162 => ?_)
      refine g_aload_n C dL_law_1263 2 rfl rfl ?_
      refine g_aload_n C dL_law_1264 0 rfl rfl ?_
      refine g_iload_n C dL_law_1265 3 rfl rfl ?_
      refine g_iconst C (1 : Int32) dL_law_1266 rfl ?_
      refine g_iadd C dL_law_1267 ?_
      refine g_sld C hb dL_law_1268 (fun _ => ?_)
      refine g_callVi C cv_X9_judge (ct_X9_judge a2 (xs (x3 + (1 : Int32)).toNatClampNeg) h2 m162) q_1347 h2 (by decide) rfl rfl (Nat.le_of_ble_eq_true rfl) dL_law_1269 (fun r163 m164 => ?_)
      refine g_icmp_eq C 1428 dL_law_1272 (by decide) (fun _ => ?_) (fun _ => ?_)
      · refine g_sub [0, 1, 2, 3] rfl ?_
        exact s_law_J1428 C hb hlr hk18 a1 a2 x3 h1 h2 m164
      · refine g_iconst C (0 : Int32) dL_law_1275 rfl ?_
        exact g_none
    refine g_tsw C 1277 dL_law_33 (by decide) rfl (by decide) ?_ (fun e170 => ?_)
    · refine g_aload_n C dL_law_1277 1 rfl rfl ?_
      refine g_aload_n C dL_law_1278 0 rfl rfl ?_
      refine g_iload_n C dL_law_1279 3 rfl rfl ?_
      refine g_iconst C (1 : Int32) dL_law_1280 rfl ?_
      refine g_iadd C dL_law_1281 ?_
      refine g_sld C hb dL_law_1282 (fun _ => ?_)
      refine g_aload_n C dL_law_1283 0 rfl rfl ?_
      refine g_iload_n C dL_law_1284 3 rfl rfl ?_
      refine g_iconst C (2 : Int32) dL_law_1285 rfl ?_
      refine g_iadd C dL_law_1286 ?_
      refine g_sld C hb dL_law_1287 (fun _ => ?_)
      refine g_aload_n C dL_law_1288 0 rfl rfl ?_
      refine g_iload_n C dL_law_1289 3 rfl rfl ?_
      refine g_iconst C (3 : Int32) dL_law_1290 rfl ?_
      refine g_iadd C dL_law_1291 ?_
      refine g_sld C hb dL_law_1292 (fun _ => ?_)
      refine g_callVi C cv_X8_came (ct_X8_came a1 (xs (x3 + (1 : Int32)).toNatClampNeg) (xs (x3 + (2 : Int32)).toNatClampNeg) (xs (x3 + (3 : Int32)).toNatClampNeg) h1 m0) q_862 h1 (by decide) rfl rfl (Nat.le_of_ble_eq_true rfl) dL_law_1293 (fun r166 m167 => ?_)
      refine g_aload_n C dL_law_1296 2 rfl rfl ?_
      refine g_aload_n C dL_law_1297 0 rfl rfl ?_
      refine g_iload_n C dL_law_1298 3 rfl rfl ?_
      refine g_iconst C (1 : Int32) dL_law_1299 rfl ?_
      refine g_iadd C dL_law_1300 ?_
      refine g_sld C hb dL_law_1301 (fun _ => ?_)
      refine g_aload_n C dL_law_1302 0 rfl rfl ?_
      refine g_iload_n C dL_law_1303 3 rfl rfl ?_
      refine g_iconst C (2 : Int32) dL_law_1304 rfl ?_
      refine g_iadd C dL_law_1305 ?_
      refine g_sld C hb dL_law_1306 (fun _ => ?_)
      refine g_aload_n C dL_law_1307 0 rfl rfl ?_
      refine g_iload_n C dL_law_1308 3 rfl rfl ?_
      refine g_iconst C (3 : Int32) dL_law_1309 rfl ?_
      refine g_iadd C dL_law_1310 ?_
      refine g_sld C hb dL_law_1311 (fun _ => ?_)
      refine g_callVi C cv_X9_came (ct_X9_came a2 (xs (x3 + (1 : Int32)).toNatClampNeg) (xs (x3 + (2 : Int32)).toNatClampNeg) (xs (x3 + (3 : Int32)).toNatClampNeg) h2 m167) q_1351 h2 (by decide) rfl rfl (Nat.le_of_ble_eq_true rfl) dL_law_1312 (fun r168 m169 => ?_)
      refine g_icmp_eq C 1428 dL_law_1315 (by decide) (fun _ => ?_) (fun _ => ?_)
      · refine g_sub [0, 1, 2, 3] rfl ?_
        exact s_law_J1428 C hb hlr hk18 a1 a2 x3 h1 h2 m169
      · refine g_iconst C (0 : Int32) dL_law_1318 rfl ?_
        exact g_none
    refine g_tsw C 1320 dL_law_33 (by decide) rfl (by decide) ?_ (fun e175 => ?_)
    · refine g_aload_n C dL_law_1320 1 rfl rfl ?_
      refine g_callVi C cv_X8_image (ct_X8_image a1 h1 m0) q_885 h1 (by decide) rfl rfl (Nat.le_of_ble_eq_true rfl) dL_law_1321 (fun r171 m172 => ?_)
      refine g_aload_n C dL_law_1324 2 rfl rfl ?_
      refine g_callVi C cv_X9_image (ct_X9_image a2 h2 m172) q_1359 h2 (by decide) rfl rfl (Nat.le_of_ble_eq_true rfl) dL_law_1325 (fun r173 m174 => ?_)
      refine g_icmp_eq C 1428 dL_law_1328 (by decide) (fun _ => ?_) (fun _ => ?_)
      · refine g_sub [0, 1, 2, 3] rfl ?_
        exact s_law_J1428 C hb hlr hk18 a1 a2 x3 h1 h2 m174
      · refine g_iconst C (0 : Int32) dL_law_1331 rfl ?_
        exact g_none
    refine g_tsw C 1333 dL_law_33 (by decide) rfl (by decide) ?_ (fun e180 => ?_)
    · refine g_aload_n C dL_law_1333 1 rfl rfl ?_
      refine g_callVi C cv_X8_restore (ct_X8_restore a1 h1 m0) q_889 h1 (by decide) rfl rfl (Nat.le_of_ble_eq_true rfl) dL_law_1334 (fun r176 m177 => ?_)
      refine g_aload_n C dL_law_1337 2 rfl rfl ?_
      refine g_callVi C cv_X9_restore (ct_X9_restore a2 h2 m177) q_1363 h2 (by decide) rfl rfl (Nat.le_of_ble_eq_true rfl) dL_law_1338 (fun r178 m179 => ?_)
      refine g_icmp_eq C 1428 dL_law_1341 (by decide) (fun _ => ?_) (fun _ => ?_)
      · refine g_sub [0, 1, 2, 3] rfl ?_
        exact s_law_J1428 C hb hlr hk18 a1 a2 x3 h1 h2 m179
      · refine g_iconst C (0 : Int32) dL_law_1344 rfl ?_
        exact g_none
    refine g_tsw C 1346 dL_law_33 (by decide) rfl (by decide) ?_ (fun e185 => ?_)
    · refine g_aload_n C dL_law_1346 1 rfl rfl ?_
      refine g_aload_n C dL_law_1347 0 rfl rfl ?_
      refine g_iload_n C dL_law_1348 3 rfl rfl ?_
      refine g_iconst C (1 : Int32) dL_law_1349 rfl ?_
      refine g_iadd C dL_law_1350 ?_
      refine g_sld C hb dL_law_1351 (fun _ => ?_)
      refine g_callVi C cv_X8_tell (ct_X8_tell a1 (xs (x3 + (1 : Int32)).toNatClampNeg) h1 m0) q_893 h1 (by decide) rfl rfl (Nat.le_of_ble_eq_true rfl) dL_law_1352 (fun r181 m182 => ?_)
      refine g_aload_n C dL_law_1355 2 rfl rfl ?_
      refine g_aload_n C dL_law_1356 0 rfl rfl ?_
      refine g_iload_n C dL_law_1357 3 rfl rfl ?_
      refine g_iconst C (1 : Int32) dL_law_1358 rfl ?_
      refine g_iadd C dL_law_1359 ?_
      refine g_sld C hb dL_law_1360 (fun _ => ?_)
      refine g_callVi C cv_X9_tell (ct_X9_tell a2 (xs (x3 + (1 : Int32)).toNatClampNeg) h2 m182) q_1367 h2 (by decide) rfl rfl (Nat.le_of_ble_eq_true rfl) dL_law_1361 (fun r183 m184 => ?_)
      refine g_icmp_eq C 1428 dL_law_1364 (by decide) (fun _ => ?_) (fun _ => ?_)
      · refine g_sub [0, 1, 2, 3] rfl ?_
        exact s_law_J1428 C hb hlr hk18 a1 a2 x3 h1 h2 m184
      · refine g_iconst C (0 : Int32) dL_law_1367 rfl ?_
        exact g_none
    refine g_tsw C 1369 dL_law_33 (by decide) rfl (by decide) ?_ (fun e190 => ?_)
    · refine g_aload_n C dL_law_1369 1 rfl rfl ?_
      refine g_callVi C cv_X8_check (ct_X8_check a1 h1 m0) q_897 h1 (by decide) rfl rfl (Nat.le_of_ble_eq_true rfl) dL_law_1370 (fun r186 m187 => ?_)
      refine g_aload_n C dL_law_1373 2 rfl rfl ?_
      refine g_callVi C cv_X9_check (ct_X9_check a2 h2 m187) q_1371 h2 (by decide) rfl rfl (Nat.le_of_ble_eq_true rfl) dL_law_1374 (fun r188 m189 => ?_)
      refine g_icmp_eq C 1428 dL_law_1377 (by decide) (fun _ => ?_) (fun _ => ?_)
      · refine g_sub [0, 1, 2, 3] rfl ?_
        exact s_law_J1428 C hb hlr hk18 a1 a2 x3 h1 h2 m189
      · refine g_iconst C (0 : Int32) dL_law_1380 rfl ?_
        exact g_none
    refine g_tsw C 1382 dL_law_33 (by decide) rfl (by decide) ?_ (fun e195 => ?_)
    · refine g_aload_n C dL_law_1382 1 rfl rfl ?_
      refine g_aload_n C dL_law_1383 0 rfl rfl ?_
      refine g_iload_n C dL_law_1384 3 rfl rfl ?_
      refine g_iconst C (1 : Int32) dL_law_1385 rfl ?_
      refine g_iadd C dL_law_1386 ?_
      refine g_sld C hb dL_law_1387 (fun _ => ?_)
      refine g_callVi C cv_X8_count (ct_X8_count a1 (xs (x3 + (1 : Int32)).toNatClampNeg) h1 m0) q_901 h1 (by decide) rfl rfl (Nat.le_of_ble_eq_true rfl) dL_law_1388 (fun r191 m192 => ?_)
      refine g_aload_n C dL_law_1391 2 rfl rfl ?_
      refine g_aload_n C dL_law_1392 0 rfl rfl ?_
      refine g_iload_n C dL_law_1393 3 rfl rfl ?_
      refine g_iconst C (1 : Int32) dL_law_1394 rfl ?_
      refine g_iadd C dL_law_1395 ?_
      refine g_sld C hb dL_law_1396 (fun _ => ?_)
      refine g_callVi C cv_X9_count (ct_X9_count a2 (xs (x3 + (1 : Int32)).toNatClampNeg) h2 m192) q_1375 h2 (by decide) rfl rfl (Nat.le_of_ble_eq_true rfl) dL_law_1397 (fun r193 m194 => ?_)
      refine g_icmp_eq C 1428 dL_law_1400 (by decide) (fun _ => ?_) (fun _ => ?_)
      · refine g_sub [0, 1, 2, 3] rfl ?_
        exact s_law_J1428 C hb hlr hk18 a1 a2 x3 h1 h2 m194
      · refine g_iconst C (0 : Int32) dL_law_1403 rfl ?_
        exact g_none
    refine g_tsw C 1405 dL_law_33 (by decide) rfl (by decide) ?_ (fun e200 => ?_)
    · refine g_aload_n C dL_law_1405 1 rfl rfl ?_
      refine g_aload_n C dL_law_1406 0 rfl rfl ?_
      refine g_iload_n C dL_law_1407 3 rfl rfl ?_
      refine g_iconst C (1 : Int32) dL_law_1408 rfl ?_
      refine g_iadd C dL_law_1409 ?_
      refine g_sld C hb dL_law_1410 (fun _ => ?_)
      refine g_callVi C cv_X8_told (ct_X8_told a1 (xs (x3 + (1 : Int32)).toNatClampNeg) h1 m0) q_909 h1 (by decide) rfl rfl (Nat.le_of_ble_eq_true rfl) dL_law_1411 (fun r196 m197 => ?_)
      refine g_aload_n C dL_law_1414 2 rfl rfl ?_
      refine g_aload_n C dL_law_1415 0 rfl rfl ?_
      refine g_iload_n C dL_law_1416 3 rfl rfl ?_
      refine g_iconst C (1 : Int32) dL_law_1417 rfl ?_
      refine g_iadd C dL_law_1418 ?_
      refine g_sld C hb dL_law_1419 (fun _ => ?_)
      refine g_callVi C cv_X9_told (ct_X9_told a2 (xs (x3 + (1 : Int32)).toNatClampNeg) h2 m197) q_1379 h2 (by decide) rfl rfl (Nat.le_of_ble_eq_true rfl) dL_law_1420 (fun r198 m199 => ?_)
      refine g_icmp_eq C 1428 dL_law_1423 (by decide) (fun _ => ?_) (fun _ => ?_)
      · refine g_sub [0, 1, 2, 3] rfl ?_
        exact s_law_J1428 C hb hlr hk18 a1 a2 x3 h1 h2 m199
      · refine g_iconst C (0 : Int32) dL_law_1426 rfl ?_
        exact g_none
    refine g_tswd C 1428 dL_law_33 (sw_out [(0 : Int32), (1 : Int32), (2 : Int32), (3 : Int32), (4 : Int32), (5 : Int32), (6 : Int32), (7 : Int32), (8 : Int32), (9 : Int32), (10 : Int32), (11 : Int32), (12 : Int32), (13 : Int32), (14 : Int32), (15 : Int32), (16 : Int32), (17 : Int32), (18 : Int32), (19 : Int32), (20 : Int32), (21 : Int32), (22 : Int32), (23 : Int32), (24 : Int32), (25 : Int32), (26 : Int32), (27 : Int32), (28 : Int32), (29 : Int32), (30 : Int32), (31 : Int32), (32 : Int32), (33 : Int32), (34 : Int32), (35 : Int32), (36 : Int32), (37 : Int32), (38 : Int32), (39 : Int32)] (by intro v hv; simp only [List.mem_cons, List.not_mem_nil, or_false] at hv; rcases hv with rfl | rfl | rfl | rfl | rfl | rfl | rfl | rfl | rfl | rfl | rfl | rfl | rfl | rfl | rfl | rfl | rfl | rfl | rfl | rfl | rfl | rfl | rfl | rfl | rfl | rfl | rfl | rfl | rfl | rfl | rfl | rfl | rfl | rfl | rfl | rfl | rfl | rfl | rfl | rfl <;> assumption) (fun i h1 h2 => by have hi : i = 0 ∨ i = 1 ∨ i = 2 ∨ i = 3 ∨ i = 4 ∨ i = 5 ∨ i = 6 ∨ i = 7 ∨ i = 8 ∨ i = 9 ∨ i = 10 ∨ i = 11 ∨ i = 12 ∨ i = 13 ∨ i = 14 ∨ i = 15 ∨ i = 16 ∨ i = 17 ∨ i = 18 ∨ i = 19 ∨ i = 20 ∨ i = 21 ∨ i = 22 ∨ i = 23 ∨ i = 24 ∨ i = 25 ∨ i = 26 ∨ i = 27 ∨ i = 28 ∨ i = 29 ∨ i = 30 ∨ i = 31 ∨ i = 32 ∨ i = 33 ∨ i = 34 ∨ i = 35 ∨ i = 36 ∨ i = 37 ∨ i = 38 ∨ i = 39 := (by omega); rcases hi with rfl | rfl | rfl | rfl | rfl | rfl | rfl | rfl | rfl | rfl | rfl | rfl | rfl | rfl | rfl | rfl | rfl | rfl | rfl | rfl | rfl | rfl | rfl | rfl | rfl | rfl | rfl | rfl | rfl | rfl | rfl | rfl | rfl | rfl | rfl | rfl | rfl | rfl | rfl | rfl <;> simp)) (by decide) ?_
    refine g_sub [0, 1, 2, 3] rfl ?_
    exact s_law_J1428 C hb hlr hk18 a1 a2 x3 h1 h2 m0
theorem s_law_L18 {K : KT} {b sn : Nat} {xs : Nat → Int32} (C : Cx K cL_law RL 4 200) (hb : LX K b sn xs) (hlr : ∀ (pc : Nat) (L : List (Nat × Value)) (μ : Mem), decode cL_law pc = .ok (.ireturn, 1) → G K pc L [.int (1 : Int32)] μ (some ((1 : Int32), μ)))   : ∀ (n : Nat) (a1 : Nat) (a2 : Nat) (x3 : Int32) (h1 : tg a1 = 8) (h2 : tg a2 = 9) (m0 : Mem), G K 18 [(0, .ref b), (1, .ref (kf K a1)), (2, .ref (kf K a2)), (3, .int x3)] [] m0 (law_L18 sn xs n a1 a2 x3 m0) := by
  intro n
  induction n with
  | zero => intros; exact g_none
  | succ n ih =>
    intro a1 a2 x3 h1 h2 m0
    exact s_law_L18B C hb hlr  ih a1 a2 x3 h1 h2 m0
