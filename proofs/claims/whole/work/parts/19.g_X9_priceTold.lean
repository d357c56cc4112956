def f_X9_priceTold  (a0 : Nat) (x1 : Int32) (x2 : Int32) (m0 : Mem) : Res :=
  cal (f_X9_hasText a0 (1 : Int32) m0) (fun r1 m2 =>
  (if r1 = 0 then
  gd (inb ((10 : Int32) + x2) 516) (
  some ((2 : Int32) * (m2 (a0 + 1) ((10 : Int32) + x2).toNatClampNeg), m2))
  else
  gd (inb ((10 : Int32) + x2) 516) (
  gd (inb (99 : Int32) 128) (bnd (mset m2 (a0 + 6) (99 : Int32).toNatClampNeg (m2 (a0 + 1) ((10 : Int32) + x2).toNatClampNeg)) (fun m3 =>
  cal (f_X9_its a0 x1 ((9 : Int32) + x2) m3) (fun r4 m5 =>
  gd (inb (115 : Int32) 128) (bnd (mset m5 (a0 + 6) (115 : Int32).toNatClampNeg r4) (fun m6 =>
  gd (inb (2 : Int32) 516) (
  gd (inb (100 : Int32) 128) (bnd (mset m6 (a0 + 6) (100 : Int32).toNatClampNeg (m6 (a0 + 1) (2 : Int32).toNatClampNeg)) (fun m7 =>
  cal (f_X9_its a0 x1 (1 : Int32) m7) (fun r8 m9 =>
  gd (inb (109 : Int32) 128) (bnd (mset m9 (a0 + 6) (109 : Int32).toNatClampNeg r8) (fun m10 =>
  cal (f_X9_worked a0 (1 : Int32) m10) (fun r11 m12 =>
  some (r11, m12))))))))))))))))
set_option maxHeartbeats 2000000 in
theorem s_X9_priceTold {K : KT}  (C : Cx K cX9_priceTold RX9 3 3) (Rr : Rx K (some .int))  (a0 : Nat) (x1 : Int32) (x2 : Int32) (h0 : tg a0 = 9) (m0 : Mem) : G K 0 [(0, .ref (kf K a0)), (1, .int x1), (2, .int x2)] [] m0 (f_X9_priceTold a0 x1 x2 m0) := by
  unfold f_X9_priceTold
  refine g_aload_n C dX9_priceTold_0 0 rfl rfl ?_
  refine g_iconst C (1 : Int32) dX9_priceTold_1 rfl ?_
  refine g_callVi C cv_X9_hasText (ct_X9_hasText a0 (1 : Int32) h0 m0) q_1130 h0 (by decide) rfl rfl (Nat.le_of_ble_eq_true rfl) dX9_priceTold_2 (fun r1 m2 => ?_)
  refine g_if_ne C 20 dX9_priceTold_5 (by decide) (fun _ => ?_) (fun _ => ?_)
  · refine g_aload_n C dX9_priceTold_20 0 rfl rfl ?_
    refine g_getr C 10 6 Fx9 h0 (by decide) rfl rfl q_929 dX9_priceTold_21 ?_
    refine g_bipush C (99 : Int32) dX9_priceTold_24 rfl ?_
    refine g_aload_n C dX9_priceTold_26 0 rfl rfl ?_
    refine g_getr C 0 1 Fx9 h0 (by decide) rfl rfl q_919 dX9_priceTold_27 ?_
    refine g_bipush C (10 : Int32) dX9_priceTold_30 rfl ?_
    refine g_iload_n C dX9_priceTold_32 2 rfl rfl ?_
    refine g_iadd C dX9_priceTold_33 ?_
    refine g_iald (n := 516) C (cl_9_0 h0) dX9_priceTold_34 (fun _ => ?_)
    refine g_iast (n := 128) C (cl_9_10 h0) dX9_priceTold_35 (fun m3 => ?_)
    refine g_aload_n C dX9_priceTold_36 0 rfl rfl ?_
    refine g_getr C 10 6 Fx9 h0 (by decide) rfl rfl q_929 dX9_priceTold_37 ?_
    refine g_bipush C (115 : Int32) dX9_priceTold_40 rfl ?_
    refine g_aload_n C dX9_priceTold_42 0 rfl rfl ?_
    refine g_iload_n C dX9_priceTold_43 1 rfl rfl ?_
    refine g_bipush C (9 : Int32) dX9_priceTold_44 rfl ?_
    refine g_iload_n C dX9_priceTold_46 2 rfl rfl ?_
    refine g_iadd C dX9_priceTold_47 ?_
    refine g_callVi C cv_X9_its (ct_X9_its a0 x1 ((9 : Int32) + x2) h0 m3) q_1031 h0 (by decide) rfl rfl (Nat.le_of_ble_eq_true rfl) dX9_priceTold_48 (fun r4 m5 => ?_)
    refine g_iast (n := 128) C (cl_9_10 h0) dX9_priceTold_51 (fun m6 => ?_)
    refine g_aload_n C dX9_priceTold_52 0 rfl rfl ?_
    refine g_getr C 10 6 Fx9 h0 (by decide) rfl rfl q_929 dX9_priceTold_53 ?_
    refine g_bipush C (100 : Int32) dX9_priceTold_56 rfl ?_
    refine g_aload_n C dX9_priceTold_58 0 rfl rfl ?_
    refine g_getr C 0 1 Fx9 h0 (by decide) rfl rfl q_919 dX9_priceTold_59 ?_
    refine g_iconst C (2 : Int32) dX9_priceTold_62 rfl ?_
    refine g_iald (n := 516) C (cl_9_0 h0) dX9_priceTold_63 (fun _ => ?_)
    refine g_iast (n := 128) C (cl_9_10 h0) dX9_priceTold_64 (fun m7 => ?_)
    refine g_aload_n C dX9_priceTold_65 0 rfl rfl ?_
    refine g_getr C 10 6 Fx9 h0 (by decide) rfl rfl q_929 dX9_priceTold_66 ?_
    refine g_bipush C (109 : Int32) dX9_priceTold_69 rfl ?_
    refine g_aload_n C dX9_priceTold_71 0 rfl rfl ?_
    refine g_iload_n C dX9_priceTold_72 1 rfl rfl ?_
    refine g_iconst C (1 : Int32) dX9_priceTold_73 rfl ?_
    refine g_callVi C cv_X9_its (ct_X9_its a0 x1 (1 : Int32) h0 m7) q_1031 h0 (by decide) rfl rfl (Nat.le_of_ble_eq_true rfl) dX9_priceTold_74 (fun r8 m9 => ?_)
    refine g_iast (n := 128) C (cl_9_10 h0) dX9_priceTold_77 (fun m10 => ?_)
    refine g_aload_n C dX9_priceTold_78 0 rfl rfl ?_
    refine g_iconst C (1 : Int32) dX9_priceTold_79 rfl ?_
    refine g_callVi C cv_X9_worked (ct_X9_worked a0 (1 : Int32) h0 m10) q_1146 h0 (by decide) rfl rfl (Nat.le_of_ble_eq_true rfl) dX9_priceTold_80 (fun r11 m12 => ?_)
    exact g_iret C Rr dX9_priceTold_83
  · refine g_iconst C (2 : Int32) dX9_priceTold_8 rfl ?_
    refine g_aload_n C dX9_priceTold_9 0 rfl rfl ?_
    refine g_getr C 0 1 Fx9 h0 (by decide) rfl rfl q_919 dX9_priceTold_10 ?_
    refine g_bipush C (10 : Int32) dX9_priceTold_13 rfl ?_
    refine g_iload_n C dX9_priceTold_15 2 rfl rfl ?_
    refine g_iadd C dX9_priceTold_16 ?_
    refine g_iald (n := 516) C (cl_9_0 h0) dX9_priceTold_17 (fun _ => ?_)
    refine g_imul C dX9_priceTold_18 ?_
    exact g_iret C Rr dX9_priceTold_19
theorem ct_X9_priceTold {Ω : OT} (a0 : Nat) (x1 : Int32) (x2 : Int32) (h0 : tg a0 = 9) (m0 : Mem) : Ct Ω yX9_priceTold cX9_priceTold 3 (some .int) 3 [.ref (oF Ω a0), .int x1, .int x2] m0 (f_X9_priceTold a0 x1 x2 m0) := by
  refine Ct_of (by decide) (Nat.le_of_ble_eq_true rfl) ?_
  intro K hK C Rr
  subst hK
  exact s_X9_priceTold C Rr  a0 x1 x2 h0 m0
def X9_priceOf_J90   (x4 : Int32) (m0 : Mem) : Res :=
  cal (f_X9_held x4 (0 : Int32) (999 : Int32) m0) (fun r1 m2 =>
  some (r1, m2))
def X9_priceOf_J56   (a0 : Nat) (x1 : Int32) (x3 : Int32) (m0 : Mem) : Res :=
  cal (f_X9_its a0 x1 (1 : Int32) m0) (fun r1 m2 =>
  bnd (((2 : Int32) * x3) + r1) (fun y3 =>
  X9_priceOf_J90 y3 m2))
def X9_priceOf_J71   (x3 : Int32) (m0 : Mem) : Res :=
  bnd ((3 : Int32) * x3) (fun y1 =>
  X9_priceOf_J90 y1 m0)
def f_X9_priceOf  (a0 : Nat) (x1 : Int32) (x2 : Int32) (m0 : Mem) : Res :=
  gd (inb ((10 : Int32) + x2) 516) (
  bnd (m0 (a0 + 1) ((10 : Int32) + x2).toNatClampNeg) (fun y1 =>
  bnd ((2 : Int32) * y1) (fun y2 =>
  cal (f_X9_its a0 x1 (0 : Int32) m0) (fun r3 m4 =>
  (if r3 = (2 : Int32) then
  X9_priceOf_J56 a0 x1 y1 m4
  else
  if r3 = (3 : Int32) then
  X9_priceOf_J71 y1 m4
  else
  if r3 = (4 : Int32) then
  X9_priceOf_J71 y1 m4
  else
  if r3 = (5 : Int32) then
  X9_priceOf_J56 a0 x1 y1 m4
  else
  if r3 = (6 : Int32) then
  cal (f_X9_priceTold a0 x1 x2 m4) (fun r9 m10 =>
  X9_priceOf_J90 r9 m10)
  else
  X9_priceOf_J90 y2 m4)))))
set_option maxHeartbeats 2000000 in
theorem s_X9_priceOf_J90 {K : KT}  (C : Cx K cX9_priceOf RX9 5 4) (Rr : Rx K (some .int))    (x4 : Int32)  (m0 : Mem) : G K 90 [(4, .int x4)] [] m0 (X9_priceOf_J90 x4 m0) := by
  unfold X9_priceOf_J90
  refine g_iload C dX9_priceOf_90 0 rfl ?_
  refine g_iconst C (0 : Int32) dX9_priceOf_92 rfl ?_
  refine g_sipush C (999 : Int32) dX9_priceOf_93 rfl ?_
  refine g_callSi C cv_X9_held q_1154 (ct_X9_held x4 (0 : Int32) (999 : Int32)  m0) q_1153 (by decide) rfl rfl (Nat.le_of_ble_eq_true rfl) dX9_priceOf_96 (fun r1 m2 => ?_)
  exact g_iret C Rr dX9_priceOf_99
set_option maxHeartbeats 2000000 in
theorem s_X9_priceOf_J56 {K : KT}  (C : Cx K cX9_priceOf RX9 5 4) (Rr : Rx K (some .int))    (a0 : Nat) (x1 : Int32) (x3 : Int32) (h0 : tg a0 = 9) (m0 : Mem) : G K 56 [(0, .ref (kf K a0)), (1, .int x1), (3, .int x3)] [] m0 (X9_priceOf_J56 a0 x1 x3 m0) := by
  unfold X9_priceOf_J56
  refine g_iconst C (2 : Int32) dX9_priceOf_56 rfl ?_
  refine g_iload_n C dX9_priceOf_57 2 rfl rfl ?_
  refine g_imul C dX9_priceOf_58 ?_
  refine g_aload_n C dX9_priceOf_59 0 rfl rfl ?_
  refine g_iload_n C dX9_priceOf_60 1 rfl rfl ?_
  refine g_iconst C (1 : Int32) dX9_priceOf_61 rfl ?_
  refine g_callVi C cv_X9_its (ct_X9_its a0 x1 (1 : Int32) h0 m0) q_1031 h0 (by decide) rfl rfl (Nat.le_of_ble_eq_true rfl) dX9_priceOf_62 (fun r1 m2 => ?_)
  refine g_iadd C dX9_priceOf_65 ?_
  refine g_bnd (fun y3 => ?_)
  refine g_istore C dX9_priceOf_66 (by decide) rfl ?_
  refine g_goto C 90 dX9_priceOf_68 (by decide) ?_
  refine g_sub [0] rfl ?_
  exact s_X9_priceOf_J90 C Rr y3 m2
set_option maxHeartbeats 2000000 in
theorem s_X9_priceOf_J71 {K : KT}  (C : Cx K cX9_priceOf RX9 5 4) (Rr : Rx K (some .int))    (x3 : Int32)  (m0 : Mem) : G K 71 [(3, .int x3)] [] m0 (X9_priceOf_J71 x3 m0) := by
  unfold X9_priceOf_J71
  refine g_iconst C (3 : Int32) dX9_priceOf_71 rfl ?_
  refine g_iload_n C dX9_priceOf_72 0 rfl rfl ?_
  refine g_imul C dX9_priceOf_73 ?_
  refine g_bnd (fun y1 => ?_)
  refine g_istore C dX9_priceOf_74 (by decide) rfl ?_
  refine g_goto C 90 dX9_priceOf_76 (by decide) ?_
  refine g_sub [0] rfl ?_
  exact s_X9_priceOf_J90 C Rr y1 m0
set_option maxHeartbeats 2000000 in
theorem s_X9_priceOf {K : KT}  (C : Cx K cX9_priceOf RX9 5 4) (Rr : Rx K (some .int))  (a0 : Nat) (x1 : Int32) (x2 : Int32) (h0 : tg a0 = 9) (m0 : Mem) : G K 0 [(0, .ref (kf K a0)), (1, .int x1), (2, .int x2)] [] m0 (f_X9_priceOf a0 x1 x2 m0) := by
  unfold f_X9_priceOf
  refine g_aload_n C dX9_priceOf_0 0 rfl rfl ?_
  refine g_getr C 0 1 Fx9 h0 (by decide) rfl rfl q_919 dX9_priceOf_1 ?_
  refine g_bipush C (10 : Int32) dX9_priceOf_4 rfl ?_
  refine g_iload_n C dX9_priceOf_6 2 rfl rfl ?_
  refine g_iadd C dX9_priceOf_7 ?_
  refine g_iald (n := 516) C (cl_9_0 h0) dX9_priceOf_8 (fun _ => ?_)
  refine g_bnd (fun y1 => ?_)
  refine g_istore_n C dX9_priceOf_9 rfl (by decide) rfl ?_
  refine g_iconst C (2 : Int32) dX9_priceOf_10 rfl ?_
  refine g_iload_n C dX9_priceOf_11 0 rfl rfl ?_
  refine g_imul C dX9_priceOf_12 ?_
  refine g_bnd (fun y2 => ?_)
  refine g_istore C dX9_priceOf_13 (by decide) rfl ?_
  refine g_aload_n C dX9_priceOf_15 2 rfl rfl ?_
  refine g_iload_n C dX9_priceOf_16 3 rfl rfl ?_
  refine g_iconst C (0 : Int32) dX9_priceOf_17 rfl ?_
  refine g_callVi C cv_X9_its (ct_X9_its a0 x1 (0 : Int32) h0 m0) q_1031 h0 (by decide) rfl rfl (Nat.le_of_ble_eq_true rfl) dX9_priceOf_18 (fun r3 m4 => ?_)
  refine g_tsw C 56 dX9_priceOf_21 (by decide) rfl (by decide) ?_ (fun e5 => ?_)
  · refine g_sub [2, 3, 1] rfl ?_
    exact s_X9_priceOf_J56 C Rr a0 x1 y1 h0 m4
  refine g_tsw C 71 dX9_priceOf_21 (by decide) rfl (by decide) ?_ (fun e6 => ?_)
  · refine g_sub [1] rfl ?_
    exact s_X9_priceOf_J71 C Rr y1 m4
  refine g_tsw C 71 dX9_priceOf_21 (by decide) rfl (by decide) ?_ (fun e7 => ?_)
  · refine g_sub [1] rfl ?_
    exact s_X9_priceOf_J71 C Rr y1 m4
  refine g_tsw C 56 dX9_priceOf_21 (by decide) rfl (by decide) ?_ (fun e8 => ?_)
  · refine g_sub [2, 3, 1] rfl ?_
    exact s_X9_priceOf_J56 C Rr a0 x1 y1 h0 m4
  refine g_tsw C 79 dX9_priceOf_21 (by decide) rfl (by decide) ?_ (fun e11 => ?_)
  · refine g_aload_n C dX9_priceOf_79 2 rfl rfl ?_
    refine g_iload_n C dX9_priceOf_80 3 rfl rfl ?_
    refine g_iload_n C dX9_priceOf_81 4 rfl rfl ?_
    refine g_callVi C cv_X9_priceTold (ct_X9_priceTold a0 x1 x2 h0 m4) q_1142 h0 (by decide) rfl rfl (Nat.le_of_ble_eq_true rfl) dX9_priceOf_82 (fun r9 m10 => ?_)
    refine g_istore C dX9_priceOf_85 (by decide) rfl ?_
    refine g_goto C 90 dX9_priceOf_87 (by decide) ?_
    refine g_sub [0] rfl ?_
    exact s_X9_priceOf_J90 C Rr r9 m10
  refine g_tswd C 90 dX9_priceOf_21 (sw_out [(2 : Int32), (3 : Int32), (4 : Int32), (5 : Int32), (6 : Int32)] (by intro v hv; simp only [List.mem_cons, List.not_mem_nil, or_false] at hv; rcases hv with rfl | rfl | rfl | rfl | rfl <;> assumption) (fun i h1 h2 => by have hi : i = 2 ∨ i = 3 ∨ i = 4 ∨ i = 5 ∨ i = 6 := (by omega); rcases hi with rfl | rfl | rfl | rfl | rfl <;> simp)) (by decide) ?_
  refine g_sub [0] rfl ?_
  exact s_X9_priceOf_J90 C Rr y2 m4
theorem ct_X9_priceOf {Ω : OT} (a0 : Nat) (x1 : Int32) (x2 : Int32) (h0 : tg a0 = 9) (m0 : Mem) : Ct Ω yX9_priceOf cX9_priceOf 5 (some .int) 4 [.ref (oF Ω a0), .int x1, .int x2] m0 (f_X9_priceOf a0 x1 x2 m0) := by
  refine Ct_of (by decide) (Nat.le_of_ble_eq_true rfl) ?_
  intro K hK C Rr
  subst hK
  exact s_X9_priceOf C Rr  a0 x1 x2 h0 m0
def X9_price_J29   (xs0 : Int32) (m0 : Mem) : Res :=
  some (xs0, m0)
def X9_price_J24   (a0 : Nat) (m0 : Mem) : Res :=
  cal (f_X9_error a0 (1 : Int32) m0) (fun r1 m2 =>
  X9_price_J29 r1 m2)
def f_X9_price  (a0 : Nat) (x1 : Int32) (x2 : Int32) (m0 : Mem) : Res :=
  cal (f_X9_isShop a0 x1 m0) (fun r1 m2 =>
  (if r1 = 0 then
  X9_price_J24 a0 m2
  else
  cal (f_X9_isGood x2 m2) (fun r3 m4 =>
  (if r3 = 0 then
  X9_price_J24 a0 m4
  else
  cal (f_X9_priceOf a0 x1 x2 m4) (fun r5 m6 =>
  X9_price_J29 r5 m6)))))
set_option maxHeartbeats 2000000 in
theorem s_X9_price_J29 {K : KT}  (C : Cx K cX9_price RX9 3 5) (Rr : Rx K (some .int))    (xs0 : Int32)  (m0 : Mem) : G K 29 [] [.int xs0] m0 (X9_price_J29 xs0 m0) := by
  unfold X9_price_J29
  exact g_iret C Rr dX9_price_29
set_option maxHeartbeats 2000000 in
theorem s_X9_price_J24 {K : KT}  (C : Cx K cX9_price RX9 3 5) (Rr : Rx K (some .int))    (a0 : Nat) (h0 : tg a0 = 9) (m0 : Mem) : G K 24 [(0, .ref (kf K a0))] [] m0 (X9_price_J24 a0 m0) := by
  unfold X9_price_J24
  refine g_aload_n C dX9_price_24 0 rfl rfl ?_
  refine g_iconst C (1 : Int32) dX9_price_25 rfl ?_
  refine g_callVi C cv_X9_error (ct_X9_error a0 (1 : Int32) h0 m0) q_990 h0 (by decide) rfl rfl (Nat.le_of_ble_eq_true rfl) dX9_price_26 (fun r1 m2 => ?_)
  refine g_sub [] rfl ?_
  exact s_X9_price_J29 C Rr r1 m2
set_option maxHeartbeats 2000000 in
theorem s_X9_price {K : KT}  (C : Cx K cX9_price RX9 3 5) (Rr : Rx K (some .int))  (a0 : Nat) (x1 : Int32) (x2 : Int32) (h0 : tg a0 = 9) (m0 : Mem) : G K 0 [(0, .ref (kf K a0)), (1, .int x1), (2, .int x2)] [] m0 (f_X9_price a0 x1 x2 m0) := by
  unfold f_X9_price
  refine g_aload_n C dX9_price_0 0 rfl rfl ?_
  refine g_iload_n C dX9_price_1 1 rfl rfl ?_
  refine g_callVi C cv_X9_isShop (ct_X9_isShop a0 x1 h0 m0) q_1011 h0 (by decide) rfl rfl (Nat.le_of_ble_eq_true rfl) dX9_price_2 (fun r1 m2 => ?_)
  refine g_if_eq C 24 dX9_price_5 (by decide) (fun _ => ?_) (fun _ => ?_)
  · refine g_sub [0] rfl ?_
    exact s_X9_price_J24 C Rr a0 h0 m2
  · refine g_iload_n C dX9_price_8 2 rfl rfl ?_
    refine g_callSi C cv_X9_isGood q_985 (ct_X9_isGood x2  m2) q_984 (by decide) rfl rfl (Nat.le_of_ble_eq_true rfl) dX9_price_9 (fun r3 m4 => ?_)
    refine g_if_eq C 24 dX9_price_12 (by decide) (fun _ => ?_) (fun _ => ?_)
    · refine g_sub [0] rfl ?_
      exact s_X9_price_J24 C Rr a0 h0 m4
    · refine g_aload_n C dX9_price_15 0 rfl rfl ?_
      refine g_iload_n C dX9_price_16 1 rfl rfl ?_
      refine g_iload_n C dX9_price_17 2 rfl rfl ?_
      refine g_callVi C cv_X9_priceOf (ct_X9_priceOf a0 x1 x2 h0 m4) q_1138 h0 (by decide) rfl rfl (Nat.le_of_ble_eq_true rfl) dX9_price_18 (fun r5 m6 => ?_)
      refine g_goto C 29 dX9_price_21 (by decide) ?_
      refine g_sub [] rfl ?_
      exact s_X9_price_J29 C Rr r5 m6
theorem ct_X9_price {Ω : OT} (a0 : Nat) (x1 : Int32) (x2 : Int32) (h0 : tg a0 = 9) (m0 : Mem) : Ct Ω yX9_price cX9_price 3 (some .int) 5 [.ref (oF Ω a0), .int x1, .int x2] m0 (f_X9_price a0 x1 x2 m0) := by
  refine Ct_of (by decide) (Nat.le_of_ble_eq_true rfl) ?_
  intro K hK C Rr
  subst hK
  exact s_X9_price C Rr  a0 x1 x2 h0 m0
def X9_fills_J29   (xs0 : Int32) (m0 : Mem) : Res :=
  some (xs0, m0)
def X9_fills_J24   (a0 : Nat) (m0 : Mem) : Res :=
  cal (f_X9_error a0 (1 : Int32) m0) (fun r1 m2 =>
  X9_fills_J29 r1 m2)
def f_X9_fills  (a0 : Nat) (x1 : Int32) (x2 : Int32) (m0 : Mem) : Res :=
  cal (f_X9_isShop a0 x1 m0) (fun r1 m2 =>
  (if r1 = 0 then
  X9_fills_J24 a0 m2
  else
  cal (f_X9_isGood x2 m2) (fun r3 m4 =>
  (if r3 = 0 then
  X9_fills_J24 a0 m4
  else
  cal (f_X9_fillsOf a0 x1 x2 m4) (fun r5 m6 =>
  X9_fills_J29 r5 m6)))))
set_option maxHeartbeats 2000000 in
theorem s_X9_fills_J29 {K : KT}  (C : Cx K cX9_fills RX9 3 5) (Rr : Rx K (some .int))    (xs0 : Int32)  (m0 : Mem) : G K 29 [] [.int xs0] m0 (X9_fills_J29 xs0 m0) := by
  unfold X9_fills_J29
  exact g_iret C Rr dX9_fills_29
set_option maxHeartbeats 2000000 in
theorem s_X9_fills_J24 {K : KT}  (C : Cx K cX9_fills RX9 3 5) (Rr : Rx K (some .int))    (a0 : Nat) (h0 : tg a0 = 9) (m0 : Mem) : G K 24 [(0, .ref (kf K a0))] [] m0 (X9_fills_J24 a0 m0) := by
  unfold X9_fills_J24
  refine g_aload_n C dX9_fills_24 0 rfl rfl ?_
  refine g_iconst C (1 : Int32) dX9_fills_25 rfl ?_
  refine g_callVi C cv_X9_error (ct_X9_error a0 (1 : Int32) h0 m0) q_990 h0 (by decide) rfl rfl (Nat.le_of_ble_eq_true rfl) dX9_fills_26 (fun r1 m2 => ?_)
  refine g_sub [] rfl ?_
  exact s_X9_fills_J29 C Rr r1 m2
set_option maxHeartbeats 2000000 in
theorem s_X9_fills {K : KT}  (C : Cx K cX9_fills RX9 3 5) (Rr : Rx K (some .int))  (a0 : Nat) (x1 : Int32) (x2 : Int32) (h0 : tg a0 = 9) (m0 : Mem) : G K 0 [(0, .ref (kf K a0)), (1, .int x1), (2, .int x2)] [] m0 (f_X9_fills a0 x1 x2 m0) := by
  unfold f_X9_fills
  refine g_aload_n C dX9_fills_0 0 rfl rfl ?_
  refine g_iload_n C dX9_fills_1 1 rfl rfl ?_
  refine g_callVi C cv_X9_isShop (ct_X9_isShop a0 x1 h0 m0) q_1011 h0 (by decide) rfl rfl (Nat.le_of_ble_eq_true rfl) dX9_fills_2 (fun r1 m2 => ?_)
  refine g_if_eq C 24 dX9_fills_5 (by decide) (fun _ => ?_) (fun _ => ?_)
  · refine g_sub [0] rfl ?_
    exact s_X9_fills_J24 C Rr a0 h0 m2
  · refine g_iload_n C dX9_fills_8 2 rfl rfl ?_
    refine g_callSi C cv_X9_isGood q_985 (ct_X9_isGood x2  m2) q_984 (by decide) rfl rfl (Nat.le_of_ble_eq_true rfl) dX9_fills_9 (fun r3 m4 => ?_)
    refine g_if_eq C 24 dX9_fills_12 (by decide) (fun _ => ?_) (fun _ => ?_)
    · refine g_sub [0] rfl ?_
      exact s_X9_fills_J24 C Rr a0 h0 m4
    · refine g_aload_n C dX9_fills_15 0 rfl rfl ?_
      refine g_iload_n C dX9_fills_16 1 rfl rfl ?_
      refine g_iload_n C dX9_fills_17 2 rfl rfl ?_
      refine g_callVi C cv_X9_fillsOf (ct_X9_fillsOf a0 x1 x2 h0 m4) q_1160 h0 (by decide) rfl rfl (Nat.le_of_ble_eq_true rfl) dX9_fills_18 (fun r5 m6 => ?_)
      refine g_goto C 29 dX9_fills_21 (by decide) ?_
      refine g_sub [] rfl ?_
      exact s_X9_fills_J29 C Rr r5 m6
theorem ct_X9_fills {Ω : OT} (a0 : Nat) (x1 : Int32) (x2 : Int32) (h0 : tg a0 = 9) (m0 : Mem) : Ct Ω yX9_fills cX9_fills 3 (some .int) 5 [.ref (oF Ω a0), .int x1, .int x2] m0 (f_X9_fills a0 x1 x2 m0) := by
  refine Ct_of (by decide) (Nat.le_of_ble_eq_true rfl) ?_
  intro K hK C Rr
  subst hK
  exact s_X9_fills C Rr  a0 x1 x2 h0 m0
def f_X9_gets  (a0 : Nat) (x1 : Int32) (x2 : Int32) (m0 : Mem) : Res :=
  cal (f_X9_its a0 x1 (2 : Int32) m0) (fun r1 m2 =>
  cal (f_X9_held (r1 + x2) (-999999 : Int32) (999999 : Int32) m2) (fun r3 m4 =>
  cal (f_X9_lays1 a0 x1 (2 : Int32) r3 m4) (fun r5 m6 =>
  some (0, m6))))
set_option maxHeartbeats 2000000 in
theorem s_X9_gets {K : KT}  (C : Cx K cX9_gets RX9 3 2) (Rr : Rx K none)  (a0 : Nat) (x1 : Int32) (x2 : Int32) (h0 : tg a0 = 9) (m0 : Mem) : G K 0 [(0, .ref (kf K a0)), (1, .int x1), (2, .int x2)] [] m0 (f_X9_gets a0 x1 x2 m0) := by
  unfold f_X9_gets
  refine g_aload_n C dX9_gets_0 0 rfl rfl ?_
  refine g_iload_n C dX9_gets_1 1 rfl rfl ?_
  refine g_iconst C (2 : Int32) dX9_gets_2 rfl ?_
  refine g_aload_n C dX9_gets_3 0 rfl rfl ?_
  refine g_iload_n C dX9_gets_4 1 rfl rfl ?_
  refine g_iconst C (2 : Int32) dX9_gets_5 rfl ?_
  refine g_callVi C cv_X9_its (ct_X9_its a0 x1 (2 : Int32) h0 m0) q_1031 h0 (by decide) rfl rfl (Nat.le_of_ble_eq_true rfl) dX9_gets_6 (fun r1 m2 => ?_)
  refine g_iload_n C dX9_gets_9 2 rfl rfl ?_
  refine g_iadd C dX9_gets_10 ?_
  refine g_ldc (v := (-999999 : Int32)) C q_1184 dX9_gets_11 ?_
  refine g_ldc (v := (999999 : Int32)) C q_1185 dX9_gets_13 ?_
  refine g_callSi C cv_X9_held q_1154 (ct_X9_held (r1 + x2) (-999999 : Int32) (999999 : Int32)  m2) q_1153 (by decide) rfl rfl (Nat.le_of_ble_eq_true rfl) dX9_gets_15 (fun r3 m4 => ?_)
  refine g_callVv C cv_X9_lays1 (ct_X9_lays1 a0 x1 (2 : Int32) r3 h0 m4) q_1003 h0 (by decide) rfl rfl (Nat.le_of_ble_eq_true rfl) dX9_gets_18 (fun r5 m6 => ?_)
  exact g_vret C Rr dX9_gets_21
theorem ct_X9_gets {Ω : OT} (a0 : Nat) (x1 : Int32) (x2 : Int32) (h0 : tg a0 = 9) (m0 : Mem) : Ct Ω yX9_gets cX9_gets 3 none 2 [.ref (oF Ω a0), .int x1, .int x2] m0 (f_X9_gets a0 x1 x2 m0) := by
  refine Ct_of (by decide) (Nat.le_of_ble_eq_true rfl) ?_
  intro K hK C Rr
  subst hK
  exact s_X9_gets C Rr  a0 x1 x2 h0 m0
def X9_hasOther_J23   (xs0 : Int32) (m0 : Mem) : Res :=
  gd (isb xs0) (some (xs0, m0))
def X9_hasOther_J22    (m0 : Mem) : Res :=
  X9_hasOther_J23 (0 : Int32) m0
def f_X9_hasOther  (a0 : Nat) (x1 : Int32) (m0 : Mem) : Res :=
  cal (f_X9_left a0 x1 m0) (fun r1 m2 =>
  (if r1 = (-1 : Int32) then
  X9_hasOther_J22 m2
  else
  cal (f_X9_left a0 x1 m2) (fun r3 m4 =>
  (if r3 = x1 then
  X9_hasOther_J22 m4
  else
  X9_hasOther_J23 (1 : Int32) m4))))
set_option maxHeartbeats 2000000 in
theorem s_X9_hasOther_J23 {K : KT}  (C : Cx K cX9_hasOther RX9 2 2) (Rr : Rx K (some .boolean))    (xs0 : Int32)  (m0 : Mem) : G K 23 [] [.int xs0] m0 (X9_hasOther_J23 xs0 m0) := by
  unfold X9_hasOther_J23
  exact g_zret C Rr dX9_hasOther_23
set_option maxHeartbeats 2000000 in
theorem s_X9_hasOther_J22 {K : KT}  (C : Cx K cX9_hasOther RX9 2 2) (Rr : Rx K (some .boolean))      (m0 : Mem) : G K 22 [] [] m0 (X9_hasOther_J22 m0) := by
  unfold X9_hasOther_J22
  refine g_iconst C (0 : Int32) dX9_hasOther_22 rfl ?_
  refine g_sub [] rfl ?_
  exact s_X9_hasOther_J23 C Rr (0 : Int32) m0
set_option maxHeartbeats 2000000 in
theorem s_X9_hasOther {K : KT}  (C : Cx K cX9_hasOther RX9 2 2) (Rr : Rx K (some .boolean))  (a0 : Nat) (x1 : Int32) (h0 : tg a0 = 9) (m0 : Mem) : G K 0 [(0, .ref (kf K a0)), (1, .int x1)] [] m0 (f_X9_hasOther a0 x1 m0) := by
  unfold f_X9_hasOther
  refine g_aload_n C dX9_hasOther_0 0 rfl rfl ?_
  refine g_iload_n C dX9_hasOther_1 1 rfl rfl ?_
  refine g_callVi C cv_X9_left (ct_X9_left a0 x1 h0 m0) q_1027 h0 (by decide) rfl rfl (Nat.le_of_ble_eq_true rfl) dX9_hasOther_2 (fun r1 m2 => ?_)
  refine g_iconst C (-1 : Int32) dX9_hasOther_5 rfl ?_
  refine g_icmp_eq C 22 dX9_hasOther_6 (by decide) (fun _ => ?_) (fun _ => ?_)
  · refine g_sub [] rfl ?_
    exact s_X9_hasOther_J22 C Rr m2
  · refine g_aload_n C dX9_hasOther_9 0 rfl rfl ?_
    refine g_iload_n C dX9_hasOther_10 1 rfl rfl ?_
    refine g_callVi C cv_X9_left (ct_X9_left a0 x1 h0 m2) q_1027 h0 (by decide) rfl rfl (Nat.le_of_ble_eq_true rfl) dX9_hasOther_11 (fun r3 m4 => ?_)
    refine g_iload_n C dX9_hasOther_14 1 rfl rfl ?_
    refine g_icmp_eq C 22 dX9_hasOther_15 (by decide) (fun _ => ?_) (fun _ => ?_)
    · refine g_sub [] rfl ?_
      exact s_X9_hasOther_J22 C Rr m4
    · refine g_iconst C (1 : Int32) dX9_hasOther_18 rfl ?_
      refine g_goto C 23 dX9_hasOther_19 (by decide) ?_
      refine g_sub [] rfl ?_
      exact s_X9_hasOther_J23 C Rr (1 : Int32) m4
theorem ct_X9_hasOther {Ω : OT} (a0 : Nat) (x1 : Int32) (h0 : tg a0 = 9) (m0 : Mem) : Ct Ω yX9_hasOther cX9_hasOther 2 (some .boolean) 2 [.ref (oF Ω a0), .int x1] m0 (f_X9_hasOther a0 x1 m0) := by
  refine Ct_of (by decide) (Nat.le_of_ble_eq_true rfl) ?_
  intro K hK C Rr
  subst hK
  exact s_X9_hasOther C Rr  a0 x1 h0 m0
def f_X9_buysOut  (a0 : Nat) (x1 : Int32) (x2 : Int32) (m0 : Mem) : Res :=
  cal (f_X9_left a0 x1 m0) (fun r1 m2 =>
  cal (f_X9_its a0 r1 ((9 : Int32) + x2) m2) (fun r3 m4 =>
  cal (f_X9_priceOf a0 r1 x2 m4) (fun r5 m6 =>
  bnd (r3 * r5) (fun y7 =>
  cal (f_X9_gets a0 x1 (-y7) m6) (fun r8 m9 =>
  cal (f_X9_gets a0 r1 y7 m9) (fun r10 m11 =>
  cal (f_X9_lays1 a0 r1 ((9 : Int32) + x2) (0 : Int32) m11) (fun r12 m13 =>
  cal (f_X9_its a0 x1 ((9 : Int32) + x2) m13) (fun r14 m15 =>
  cal (f_X9_held (r14 + r3) (0 : Int32) (99 : Int32) m15) (fun r16 m17 =>
  cal (f_X9_lays1 a0 x1 ((9 : Int32) + x2) r16 m17) (fun r18 m19 =>
  some (0, m19)))))))))))
set_option maxHeartbeats 2000000 in
theorem s_X9_buysOut {K : KT}  (C : Cx K cX9_buysOut RX9 6 5) (Rr : Rx K none)  (a0 : Nat) (x1 : Int32) (x2 : Int32) (h0 : tg a0 = 9) (m0 : Mem) : G K 0 [(0, .ref (kf K a0)), (1, .int x1), (2, .int x2)] [] m0 (f_X9_buysOut a0 x1 x2 m0) := by
  unfold f_X9_buysOut
  refine g_aload_n C dX9_buysOut_0 0 rfl rfl ?_
  refine g_iload_n C dX9_buysOut_1 1 rfl rfl ?_
  refine g_callVi C cv_X9_left (ct_X9_left a0 x1 h0 m0) q_1027 h0 (by decide) rfl rfl (Nat.le_of_ble_eq_true rfl) dX9_buysOut_2 (fun r1 m2 => ?_)
  refine g_istore_n C dX9_buysOut_5 rfl (by decide) rfl ?_
  refine g_aload_n C dX9_buysOut_6 1 rfl rfl ?_
  refine g_iload_n C dX9_buysOut_7 0 rfl rfl ?_
  refine g_bipush C (9 : Int32) dX9_buysOut_8 rfl ?_
  refine g_iload_n C dX9_buysOut_10 3 rfl rfl ?_
  refine g_iadd C dX9_buysOut_11 ?_
  refine g_callVi C cv_X9_its (ct_X9_its a0 r1 ((9 : Int32) + x2) h0 m2) q_1031 h0 (by decide) rfl rfl (Nat.le_of_ble_eq_true rfl) dX9_buysOut_12 (fun r3 m4 => ?_)
  refine g_istore C dX9_buysOut_15 (by decide) rfl ?_
  refine g_iload C dX9_buysOut_17 0 rfl ?_
  refine g_aload_n C dX9_buysOut_19 2 rfl rfl ?_
  refine g_iload_n C dX9_buysOut_20 1 rfl rfl ?_
  refine g_iload_n C dX9_buysOut_21 4 rfl rfl ?_
  refine g_callVi C cv_X9_priceOf (ct_X9_priceOf a0 r1 x2 h0 m4) q_1138 h0 (by decide) rfl rfl (Nat.le_of_ble_eq_true rfl) dX9_buysOut_22 (fun r5 m6 => ?_)
  refine g_imul C dX9_buysOut_25 ?_
  refine g_bnd (fun y7 => ?_)
  refine g_istore C dX9_buysOut_26 (by decide) rfl ?_
  refine g_aload_n C dX9_buysOut_28 3 rfl rfl ?_
  refine g_iload_n C dX9_buysOut_29 4 rfl rfl ?_
  refine g_iload C dX9_buysOut_30 0 rfl ?_
  refine g_ineg C dX9_buysOut_32 ?_
  refine g_callVv C cv_X9_gets (ct_X9_gets a0 x1 (-y7) h0 m6) q_1180 h0 (by decide) rfl rfl (Nat.le_of_ble_eq_true rfl) dX9_buysOut_33 (fun r8 m9 => ?_)
  refine g_aload_n C dX9_buysOut_36 3 rfl rfl ?_
  refine g_iload_n C dX9_buysOut_37 2 rfl rfl ?_
  refine g_iload C dX9_buysOut_38 0 rfl ?_
  refine g_callVv C cv_X9_gets (ct_X9_gets a0 r1 y7 h0 m9) q_1180 h0 (by decide) rfl rfl (Nat.le_of_ble_eq_true rfl) dX9_buysOut_40 (fun r10 m11 => ?_)
  refine g_aload_n C dX9_buysOut_43 3 rfl rfl ?_
  refine g_iload_n C dX9_buysOut_44 2 rfl rfl ?_
  refine g_bipush C (9 : Int32) dX9_buysOut_45 rfl ?_
  refine g_iload_n C dX9_buysOut_47 5 rfl rfl ?_
  refine g_iadd C dX9_buysOut_48 ?_
  refine g_iconst C (0 : Int32) dX9_buysOut_49 rfl ?_
  refine g_callVv C cv_X9_lays1 (ct_X9_lays1 a0 r1 ((9 : Int32) + x2) (0 : Int32) h0 m11) q_1003 h0 (by decide) rfl rfl (Nat.le_of_ble_eq_true rfl) dX9_buysOut_50 (fun r12 m13 => ?_)
  refine g_aload_n C dX9_buysOut_53 3 rfl rfl ?_
  refine g_iload_n C dX9_buysOut_54 4 rfl rfl ?_
  refine g_bipush C (9 : Int32) dX9_buysOut_55 rfl ?_
  refine g_iload_n C dX9_buysOut_57 5 rfl rfl ?_
  refine g_iadd C dX9_buysOut_58 ?_
  refine g_aload_n C dX9_buysOut_59 3 rfl rfl ?_
  refine g_iload_n C dX9_buysOut_60 4 rfl rfl ?_
  refine g_bipush C (9 : Int32) dX9_buysOut_61 rfl ?_
  refine g_iload_n C dX9_buysOut_63 5 rfl rfl ?_
  refine g_iadd C dX9_buysOut_64 ?_
  refine g_callVi C cv_X9_its (ct_X9_its a0 x1 ((9 : Int32) + x2) h0 m13) q_1031 h0 (by decide) rfl rfl (Nat.le_of_ble_eq_true rfl) dX9_buysOut_65 (fun r14 m15 => ?_)
  refine g_iload C dX9_buysOut_68 1 rfl ?_
  refine g_iadd C dX9_buysOut_70 ?_
  refine g_iconst C (0 : Int32) dX9_buysOut_71 rfl ?_
  refine g_bipush C (99 : Int32) dX9_buysOut_72 rfl ?_
  refine g_callSi C cv_X9_held q_1154 (ct_X9_held (r14 + r3) (0 : Int32) (99 : Int32)  m15) q_1153 (by decide) rfl rfl (Nat.le_of_ble_eq_true rfl) dX9_buysOut_74 (fun r16 m17 => ?_)
  refine g_callVv C cv_X9_lays1 (ct_X9_lays1 a0 x1 ((9 : Int32) + x2) r16 h0 m17) q_1003 h0 (by decide) rfl rfl (Nat.le_of_ble_eq_true rfl) dX9_buysOut_77 (fun r18 m19 => ?_)
  exact g_vret C Rr dX9_buysOut_80
theorem ct_X9_buysOut {Ω : OT} (a0 : Nat) (x1 : Int32) (x2 : Int32) (h0 : tg a0 = 9) (m0 : Mem) : Ct Ω yX9_buysOut cX9_buysOut 6 none 5 [.ref (oF Ω a0), .int x1, .int x2] m0 (f_X9_buysOut a0 x1 x2 m0) := by
  refine Ct_of (by decide) (Nat.le_of_ble_eq_true rfl) ?_
  intro K hK C Rr
  subst hK
  exact s_X9_buysOut C Rr  a0 x1 x2 h0 m0
def X9_buys_J18    (m0 : Mem) : Res :=
  some (0, m0)
def X9_buys_J74  (k21 : Nat → Int32 → Int32 → Mem → Res) (a0 : Nat) (x1 : Int32) (x2 : Int32) (m0 : Mem) : Res :=
  bnd (x2 + (1 : Int32)) (fun y1 =>
  k21 a0 x1 y1 m0)
def X9_buys_L21B  (k21 : Nat → Int32 → Int32 → Mem → Res) (a0 : Nat) (x1 : Int32) (x2 : Int32) (m0 : Mem) : Res :=
  (if (6 : Int32) ≤ x2 then
  some (0, m0)
  else
  cal (f_X9_left a0 x1 m0) (fun r1 m2 =>
  cal (f_X9_its a0 r1 ((9 : Int32) + x2) m2) (fun r3 m4 =>
  cal (f_X9_its a0 x1 ((9 : Int32) + x2) m4) (fun r5 m6 =>
  (if r5 ≤ 0 then
  X9_buys_J74 k21 a0 x1 x2 m6
  else
  cal (f_X9_its a0 x1 (1 : Int32) m6) (fun r7 m8 =>
  cal (f_X9_in r3 (1 : Int32) r7 m8) (fun r9 m10 =>
  (if r9 = 0 then
  X9_buys_J74 k21 a0 x1 x2 m10
  else
  cal (f_X9_buysOut a0 x1 x2 m10) (fun r11 m12 =>
  some (0, m12))))))))))
def X9_buys_L21   : Nat → Nat → Int32 → Int32 → Mem → Res
  | 0 => fun _ _ _ _ => none
  | n + 1 => X9_buys_L21B (X9_buys_L21 n)
def f_X9_buys  (a0 : Nat) (x1 : Int32) (m0 : Mem) : Res :=
  cal (f_X9_its a0 x1 (0 : Int32) m0) (fun r1 m2 =>
  (if r1 = (5 : Int32) then
  cal (f_X9_hasOther a0 x1 m2) (fun r3 m4 =>
  (if r3 = 0 then
  X9_buys_J18 m4
  else
  X9_buys_L21 FU a0 x1 (0 : Int32) m4))
  else
  X9_buys_J18 m2))
set_option maxHeartbeats 2000000 in
theorem s_X9_buys_J18 {K : KT}  (C : Cx K cX9_buys RX9 4 6) (Rr : Rx K none)      (m0 : Mem) : G K 18 [] [] m0 (X9_buys_J18 m0) := by
  unfold X9_buys_J18
  exact g_vret C Rr dX9_buys_18
set_option maxHeartbeats 2000000 in
theorem s_X9_buys_J74 {K : KT}  (C : Cx K cX9_buys RX9 4 6) (Rr : Rx K none)  {k21 : Nat → Int32 → Int32 → Mem → Res} (hk21 : ∀ (a0 : Nat) (x1 : Int32) (x2 : Int32) (h0 : tg a0 = 9) (m0 : Mem), G K 21 [(0, .ref (kf K a0)), (1, .int x1), (2, .int x2)] [] m0 (k21 a0 x1 x2 m0)) (a0 : Nat) (x1 : Int32) (x2 : Int32) (h0 : tg a0 = 9) (m0 : Mem) : G K 74 [(0, .ref (kf K a0)), (1, .int x1), (2, .int x2)] [] m0 (X9_buys_J74 k21 a0 x1 x2 m0) := by
  unfold X9_buys_J74
  refine g_iinc (k := 2) C dX9_buys_74 rfl (w := (1 : Int32)) rfl (by decide) (fun v_ => [(2, .int v_), (0, .ref (kf K a0)), (1, .int x1)]) (fun _ => rfl) (fun y1 => ?_)
  refine g_goto C 21 dX9_buys_77 (by decide) ?_
  refine g_sub [1, 2, 0] rfl ?_
  exact hk21 a0 x1 y1 h0 m0
set_option maxHeartbeats 2000000 in
theorem s_X9_buys_L21B {K : KT}  (C : Cx K cX9_buys RX9 4 6) (Rr : Rx K none)  {k21 : Nat → Int32 → Int32 → Mem → Res} (hk21 : ∀ (a0 : Nat) (x1 : Int32) (x2 : Int32) (h0 : tg a0 = 9) (m0 : Mem), G K 21 [(0, .ref (kf K a0)), (1, .int x1), (2, .int x2)] [] m0 (k21 a0 x1 x2 m0)) (a0 : Nat) (x1 : Int32) (x2 : Int32) (h0 : tg a0 = 9) (m0 : Mem) : G K 21 [(0, .ref (kf K a0)), (1, .int x1), (2, .int x2)] [] m0 (X9_buys_L21B k21 a0 x1 x2 m0) := by
  unfold X9_buys_L21B
  refine g_iload_n C dX9_buys_21 2 rfl rfl ?_
  refine g_bipush C (6 : Int32) dX9_buys_22 rfl ?_
  refine g_icmp_ge C 80 dX9_buys_24 (by decide) (fun _ => ?_) (fun _ => ?_)
  · exact g_vret C Rr dX9_buys_80
  · refine g_aload_n C dX9_buys_27 0 rfl rfl ?_
    refine g_aload_n C dX9_buys_28 0 rfl rfl ?_
    refine g_iload_n C dX9_buys_29 1 rfl rfl ?_
    refine g_callVi C cv_X9_left (ct_X9_left a0 x1 h0 m0) q_1027 h0 (by decide) rfl rfl (Nat.le_of_ble_eq_true rfl) dX9_buys_30 (fun r1 m2 => ?_)
    refine g_bipush C (9 : Int32) dX9_buys_33 rfl ?_
    refine g_iload_n C dX9_buys_35 2 rfl rfl ?_
    refine g_iadd C dX9_buys_36 ?_
    refine g_callVi C cv_X9_its (ct_X9_its a0 r1 ((9 : Int32) + x2) h0 m2) q_1031 h0 (by decide) rfl rfl (Nat.le_of_ble_eq_true rfl) dX9_buys_37 (fun r3 m4 => ?_)
    refine g_istore_n C dX9_buys_40 rfl (by decide) rfl ?_
    refine g_aload_n C dX9_buys_41 1 rfl rfl ?_
    refine g_iload_n C dX9_buys_42 2 rfl rfl ?_
    refine g_bipush C (9 : Int32) dX9_buys_43 rfl ?_
    refine g_iload_n C dX9_buys_45 3 rfl rfl ?_
    refine g_iadd C dX9_buys_46 ?_
    refine g_callVi C cv_X9_its (ct_X9_its a0 x1 ((9 : Int32) + x2) h0 m4) q_1031 h0 (by decide) rfl rfl (Nat.le_of_ble_eq_true rfl) dX9_buys_47 (fun r5 m6 => ?_)
    refine g_if_le C 74 dX9_buys_50 (by decide) (fun _ => ?_) (fun _ => ?_)
    · refine g_sub [1, 2, 3] rfl ?_
      exact s_X9_buys_J74 C Rr hk21 a0 x1 x2 h0 m6
    · refine g_iload_n C dX9_buys_53 0 rfl rfl ?_
      refine g_iconst C (1 : Int32) dX9_buys_54 rfl ?_
      refine g_aload_n C dX9_buys_55 1 rfl rfl ?_
      refine g_iload_n C dX9_buys_56 2 rfl rfl ?_
      refine g_iconst C (1 : Int32) dX9_buys_57 rfl ?_
      refine g_callVi C cv_X9_its (ct_X9_its a0 x1 (1 : Int32) h0 m6) q_1031 h0 (by decide) rfl rfl (Nat.le_of_ble_eq_true rfl) dX9_buys_58 (fun r7 m8 => ?_)
      refine g_callSi C cv_X9_in q_988 (ct_X9_in r3 (1 : Int32) r7  m8) q_987 (by decide) rfl rfl (Nat.le_of_ble_eq_true rfl) dX9_buys_61 (fun r9 m10 => ?_)
      refine g_if_eq C 74 dX9_buys_64 (by decide) (fun _ => ?_) (fun _ => ?_)
      · refine g_sub [1, 2, 3] rfl ?_
        exact s_X9_buys_J74 C Rr hk21 a0 x1 x2 h0 m10
      · refine g_aload_n C dX9_buys_67 1 rfl rfl ?_
        refine g_iload_n C dX9_buys_68 2 rfl rfl ?_
        refine g_iload_n C dX9_buys_69 3 rfl rfl ?_
        refine g_callVv C cv_X9_buysOut (ct_X9_buysOut a0 x1 x2 h0 m10) q_1194 h0 (by decide) rfl rfl (Nat.le_of_ble_eq_true rfl) dX9_buys_70 (fun r11 m12 => ?_)
        exact g_vret C Rr dX9_buys_73
theorem s_X9_buys_L21 {K : KT}  (C : Cx K cX9_buys RX9 4 6) (Rr : Rx K none)    : ∀ (n : Nat) (a0 : Nat) (x1 : Int32) (x2 : Int32) (h0 : tg a0 = 9) (m0 : Mem), G K 21 [(0, .ref (kf K a0)), (1, .int x1), (2, .int x2)] [] m0 (X9_buys_L21 n a0 x1 x2 m0) := by
  intro n
  induction n with
  | zero => intros; exact g_none
  | succ n ih =>
    intro a0 x1 x2 h0 m0
    exact s_X9_buys_L21B C Rr  ih a0 x1 x2 h0 m0
set_option maxHeartbeats 2000000 in
theorem s_X9_buys {K : KT}  (C : Cx K cX9_buys RX9 4 6) (Rr : Rx K none)  (a0 : Nat) (x1 : Int32) (h0 : tg a0 = 9) (m0 : Mem) : G K 0 [(0, .ref (kf K a0)), (1, .int x1)] [] m0 (f_X9_buys a0 x1 m0) := by
  unfold f_X9_buys
  refine g_aload_n C dX9_buys_0 0 rfl rfl ?_
  refine g_iload_n C dX9_buys_1 1 rfl rfl ?_
  refine g_iconst C (0 : Int32) dX9_buys_2 rfl ?_
  refine g_callVi C cv_X9_its (ct_X9_its a0 x1 (0 : Int32) h0 m0) q_1031 h0 (by decide) rfl rfl (Nat.le_of_ble_eq_true rfl) dX9_buys_3 (fun r1 m2 => ?_)
  refine g_iconst C (5 : Int32) dX9_buys_6 rfl ?_
  refine g_icmp_ne C 18 dX9_buys_7 (by decide) (fun _ => ?_) (fun _ => ?_)
  · refine g_sub [] rfl ?_
    exact s_X9_buys_J18 C Rr m2
  · refine g_aload_n C dX9_buys_10 0 rfl rfl ?_
    refine g_iload_n C dX9_buys_11 1 rfl rfl ?_
    refine g_callVi C cv_X9_hasOther (ct_X9_hasOther a0 x1 h0 m2) q_1190 h0 (by decide) rfl rfl (Nat.le_of_ble_eq_true rfl) dX9_buys_12 (fun r3 m4 => ?_)
    refine g_if_ne C 19 dX9_buys_15 (by decide) (fun _ => ?_) (fun _ => ?_)
    · refine g_iconst C (0 : Int32) dX9_buys_19 rfl ?_
      refine g_istore_n C dX9_buys_20 rfl (by decide) rfl ?_
      refine g_sub [1, 2, 0] rfl ?_
      exact s_X9_buys_L21 C Rr FU a0 x1 (0 : Int32) h0 m4
    · refine g_sub [] rfl ?_
      exact s_X9_buys_J18 C Rr m4
theorem ct_X9_buys {Ω : OT} (a0 : Nat) (x1 : Int32) (h0 : tg a0 = 9) (m0 : Mem) : Ct Ω yX9_buys cX9_buys 4 none 6 [.ref (oF Ω a0), .int x1] m0 (f_X9_buys a0 x1 m0) := by
  refine Ct_of (by decide) (Nat.le_of_ble_eq_true rfl) ?_
  intro K hK C Rr
  subst hK
  exact s_X9_buys C Rr  a0 x1 h0 m0
def X9_fillAll_J52  (k2 : Nat → Int32 → Int32 → Mem → Res) (a0 : Nat) (x1 : Int32) (x2 : Int32) (x3 : Int32) (as0 : Nat) (xs1 : Int32) (xs2 : Int32) (m0 : Mem) : Res :=
  cal (f_X9_gets as0 xs1 xs2 m0) (fun r1 m2 =>
  cal (f_X9_lays1 a0 x1 ((9 : Int32) + x2) x3 m2) (fun r3 m4 =>
  bnd (x2 + (1 : Int32)) (fun y5 =>
  k2 a0 x1 y5 m4)))
def X9_fillAll_L2B  (k2 : Nat → Int32 → Int32 → Mem → Res) (a0 : Nat) (x1 : Int32) (x2 : Int32) (m0 : Mem) : Res :=
  (if (6 : Int32) ≤ x2 then
  some (0, m0)
  else
  cal (f_X9_fillsOf a0 x1 x2 m0) (fun r1 m2 =>
  cal (f_X9_its a0 x1 ((9 : Int32) + x2) m2) (fun r3 m4 =>
  bnd (r1 - r3) (fun y5 =>
  (if y5 ≤ 0 then
  X9_fillAll_J52 k2 a0 x1 x2 r1 a0 x1 (0 : Int32) m4
  else
  gd (inb ((10 : Int32) + x2) 516) (
  X9_fillAll_J52 k2 a0 x1 x2 r1 a0 x1 ((-y5) * (m4 (a0 + 1) ((10 : Int32) + x2).toNatClampNeg)) m4))))))
def X9_fillAll_L2   : Nat → Nat → Int32 → Int32 → Mem → Res
  | 0 => fun _ _ _ _ => none
  | n + 1 => X9_fillAll_L2B (X9_fillAll_L2 n)
def f_X9_fillAll  (a0 : Nat) (x1 : Int32) (m0 : Mem) : Res :=
  X9_fillAll_L2 FU a0 x1 (0 : Int32) m0
set_option maxHeartbeats 2000000 in
theorem s_X9_fillAll_J52 {K : KT}  (C : Cx K cX9_fillAll RX9 5 5) (Rr : Rx K none)  {k2 : Nat → Int32 → Int32 → Mem → Res} (hk2 : ∀ (a0 : Nat) (x1 : Int32) (x2 : Int32) (h0 : tg a0 = 9) (m0 : Mem), G K 2 [(0, .ref (kf K a0)), (1, .int x1), (2, .int x2)] [] m0 (k2 a0 x1 x2 m0)) (a0 : Nat) (x1 : Int32) (x2 : Int32) (x3 : Int32) (as0 : Nat) (xs1 : Int32) (xs2 : Int32) (h0 : tg a0 = 9) (hs0 : tg as0 = 9) (m0 : Mem) : G K 52 [(0, .ref (kf K a0)), (1, .int x1), (2, .int x2), (3, .int x3)] [.int xs2, .int xs1, .ref (kf K as0)] m0 (X9_fillAll_J52 k2 a0 x1 x2 x3 as0 xs1 xs2 m0) := by
  unfold X9_fillAll_J52
  refine g_callVv C cv_X9_gets (ct_X9_gets as0 xs1 xs2 hs0 m0) q_1180 hs0 (by decide) rfl rfl (Nat.le_of_ble_eq_true rfl) dX9_fillAll_52 (fun r1 m2 => ?_)
  refine g_aload_n C dX9_fillAll_55 0 rfl rfl ?_
  refine g_iload_n C dX9_fillAll_56 1 rfl rfl ?_
  refine g_bipush C (9 : Int32) dX9_fillAll_57 rfl ?_
  refine g_iload_n C dX9_fillAll_59 2 rfl rfl ?_
  refine g_iadd C dX9_fillAll_60 ?_
  refine g_iload_n C dX9_fillAll_61 3 rfl rfl ?_
  refine g_callVv C cv_X9_lays1 (ct_X9_lays1 a0 x1 ((9 : Int32) + x2) x3 h0 m2) q_1003 h0 (by decide) rfl rfl (Nat.le_of_ble_eq_true rfl) dX9_fillAll_62 (fun r3 m4 => ?_)
  refine g_iinc (k := 2) C dX9_fillAll_65 rfl (w := (1 : Int32)) rfl (by decide) (fun v_ => [(2, .int v_), (0, .ref (kf K a0)), (1, .int x1), (3, .int x3)]) (fun _ => rfl) (fun y5 => ?_)
  refine g_goto C 2 dX9_fillAll_68 (by decide) ?_
  refine g_sub [1, 2, 0] rfl ?_
  exact hk2 a0 x1 y5 h0 m4
set_option maxHeartbeats 2000000 in
theorem s_X9_fillAll_L2B {K : KT}  (C : Cx K cX9_fillAll RX9 5 5) (Rr : Rx K none)  {k2 : Nat → Int32 → Int32 → Mem → Res} (hk2 : ∀ (a0 : Nat) (x1 : Int32) (x2 : Int32) (h0 : tg a0 = 9) (m0 : Mem), G K 2 [(0, .ref (kf K a0)), (1, .int x1), (2, .int x2)] [] m0 (k2 a0 x1 x2 m0)) (a0 : Nat) (x1 : Int32) (x2 : Int32) (h0 : tg a0 = 9) (m0 : Mem) : G K 2 [(0, .ref (kf K a0)), (1, .int x1), (2, .int x2)] [] m0 (X9_fillAll_L2B k2 a0 x1 x2 m0) := by
  unfold X9_fillAll_L2B
  refine g_iload_n C dX9_fillAll_2 2 rfl rfl ?_
  refine g_bipush C (6 : Int32) dX9_fillAll_3 rfl ?_
  refine g_icmp_ge C 71 dX9_fillAll_5 (by decide) (fun _ => ?_) (fun _ => ?_)
  · exact g_vret C Rr dX9_fillAll_71
  · refine g_aload_n C dX9_fillAll_8 0 rfl rfl ?_
    refine g_iload_n C dX9_fillAll_9 1 rfl rfl ?_
    refine g_iload_n C dX9_fillAll_10 2 rfl rfl ?_
    refine g_callVi C cv_X9_fillsOf (ct_X9_fillsOf a0 x1 x2 h0 m0) q_1160 h0 (by decide) rfl rfl (Nat.le_of_ble_eq_true rfl) dX9_fillAll_11 (fun r1 m2 => ?_)
    refine g_istore_n C dX9_fillAll_14 rfl (by decide) rfl ?_
    refine g_iload_n C dX9_fillAll_15 0 rfl rfl ?_
    refine g_aload_n C dX9_fillAll_16 1 rfl rfl ?_
    refine g_iload_n C dX9_fillAll_17 2 rfl rfl ?_
    refine g_bipush C (9 : Int32) dX9_fillAll_18 rfl ?_
    refine g_iload_n C dX9_fillAll_20 3 rfl rfl ?_
    refine g_iadd C dX9_fillAll_21 ?_
    refine g_callVi C cv_X9_its (ct_X9_its a0 x1 ((9 : Int32) + x2) h0 m2) q_1031 h0 (by decide) rfl rfl (Nat.le_of_ble_eq_true rfl) dX9_fillAll_22 (fun r3 m4 => ?_)
    refine g_isub C dX9_fillAll_25 ?_
    refine g_bnd (fun y5 => ?_)
    refine g_istore C dX9_fillAll_26 (by decide) rfl ?_
    refine g_aload_n C dX9_fillAll_28 2 rfl rfl ?_
    refine g_iload_n C dX9_fillAll_29 3 rfl rfl ?_
    refine g_iload C dX9_fillAll_30 0 rfl ?_
    refine g_if_le C 51 dX9_fillAll_32 (by decide) (fun _ => ?_) (fun _ => ?_)
    · refine g_iconst C (0 : Int32) dX9_fillAll_51 rfl ?_
      refine g_sub [2, 3, 4, 1] rfl ?_
      exact s_X9_fillAll_J52 C Rr hk2 a0 x1 x2 r1 a0 x1 (0 : Int32) h0 h0 m4
    · refine g_iload C dX9_fillAll_35 0 rfl ?_
      refine g_ineg C dX9_fillAll_37 ?_
      refine g_aload_n C dX9_fillAll_38 2 rfl rfl ?_
      refine g_getr C 0 1 Fx9 h0 (by decide) rfl rfl q_919 dX9_fillAll_39 ?_
      refine g_bipush C (10 : Int32) dX9_fillAll_42 rfl ?_
      refine g_iload_n C dX9_fillAll_44 4 rfl rfl ?_
      refine g_iadd C dX9_fillAll_45 ?_
      refine g_iald (n := 516) C (cl_9_0 h0) dX9_fillAll_46 (fun _ => ?_)
      refine g_imul C dX9_fillAll_47 ?_
      refine g_goto C 52 dX9_fillAll_48 (by decide) ?_
      refine g_sub [2, 3, 4, 1] rfl ?_
      exact s_X9_fillAll_J52 C Rr hk2 a0 x1 x2 r1 a0 x1 ((-y5) * (m4 (a0 + 1) ((10 : Int32) + x2).toNatClampNeg)) h0 h0 m4
theorem s_X9_fillAll_L2 {K : KT}  (C : Cx K cX9_fillAll RX9 5 5) (Rr : Rx K none)    : ∀ (n : Nat) (a0 : Nat) (x1 : Int32) (x2 : Int32) (h0 : tg a0 = 9) (m0 : Mem), G K 2 [(0, .ref (kf K a0)), (1, .int x1), (2, .int x2)] [] m0 (X9_fillAll_L2 n a0 x1 x2 m0) := by
  intro n
  induction n with
  | zero => intros; exact g_none
  | succ n ih =>
    intro a0 x1 x2 h0 m0
    exact s_X9_fillAll_L2B C Rr  ih a0 x1 x2 h0 m0
set_option maxHeartbeats 2000000 in
theorem s_X9_fillAll {K : KT}  (C : Cx K cX9_fillAll RX9 5 5) (Rr : Rx K none)  (a0 : Nat) (x1 : Int32) (h0 : tg a0 = 9) (m0 : Mem) : G K 0 [(0, .ref (kf K a0)), (1, .int x1)] [] m0 (f_X9_fillAll a0 x1 m0) := by
  unfold f_X9_fillAll
  refine g_iconst C (0 : Int32) dX9_fillAll_0 rfl ?_
  refine g_istore_n C dX9_fillAll_1 rfl (by decide) rfl ?_
  refine g_sub [1, 2, 0] rfl ?_
  exact s_X9_fillAll_L2 C Rr FU a0 x1 (0 : Int32) h0 m0
theorem ct_X9_fillAll {Ω : OT} (a0 : Nat) (x1 : Int32) (h0 : tg a0 = 9) (m0 : Mem) : Ct Ω yX9_fillAll cX9_fillAll 5 none 5 [.ref (oF Ω a0), .int x1] m0 (f_X9_fillAll a0 x1 m0) := by
  refine Ct_of (by decide) (Nat.le_of_ble_eq_true rfl) ?_
  intro K hK C Rr
  subst hK
  exact s_X9_fillAll C Rr  a0 x1 h0 m0
def X9_dawns_L60B  (k48 : Nat → Int32 → Mem → Res) (k60 : Nat → Int32 → Int32 → Mem → Res) (a0 : Nat) (x1 : Int32) (x2 : Int32) (m0 : Mem) : Res :=
  (if (6 : Int32) ≤ x2 then
  bnd (x1 + (1 : Int32)) (fun y1 =>
  k48 a0 y1 m0)
  else
  cal (f_X9_its a0 x1 ((9 : Int32) + x2) m0) (fun r2 m3 =>
  cal (f_X9_lays1 a0 x1 ((15 : Int32) + x2) r2 m3) (fun r4 m5 =>
  bnd (x2 + (1 : Int32)) (fun y6 =>
  k60 a0 x1 y6 m5))))
def X9_dawns_L60  (k48 : Nat → Int32 → Mem → Res) : Nat → Nat → Int32 → Int32 → Mem → Res
  | 0 => fun _ _ _ _ => none
  | n + 1 => X9_dawns_L60B k48 (X9_dawns_L60 k48 n)
def X9_dawns_L48B  (k48 : Nat → Int32 → Mem → Res) (a0 : Nat) (x1 : Int32) (m0 : Mem) : Res :=
  gd (inb (0 : Int32) 516) (
  (if (m0 (a0 + 1) (0 : Int32).toNatClampNeg) ≤ x1 then
  some (0, m0)
  else
  X9_dawns_L60 k48 FU a0 x1 (0 : Int32) m0))
def X9_dawns_L48   : Nat → Nat → Int32 → Mem → Res
  | 0 => fun _ _ _ => none
  | n + 1 => X9_dawns_L48B (X9_dawns_L48 n)
def X9_dawns_L25B  (k25 : Nat → Int32 → Mem → Res) (a0 : Nat) (x1 : Int32) (m0 : Mem) : Res :=
  gd (inb (0 : Int32) 516) (
  (if (m0 (a0 + 1) (0 : Int32).toNatClampNeg) ≤ x1 then
  X9_dawns_L48 FU a0 (0 : Int32) m0
  else
  cal (f_X9_buys a0 x1 m0) (fun r1 m2 =>
  bnd (x1 + (1 : Int32)) (fun y3 =>
  k25 a0 y3 m2))))
def X9_dawns_L25   : Nat → Nat → Int32 → Mem → Res
  | 0 => fun _ _ _ => none
  | n + 1 => X9_dawns_L25B (X9_dawns_L25 n)
def X9_dawns_L2B  (k2 : Nat → Int32 → Mem → Res) (a0 : Nat) (x1 : Int32) (m0 : Mem) : Res :=
  gd (inb (0 : Int32) 516) (
  (if (m0 (a0 + 1) (0 : Int32).toNatClampNeg) ≤ x1 then
  X9_dawns_L25 FU a0 (0 : Int32) m0
  else
  cal (f_X9_fillAll a0 x1 m0) (fun r1 m2 =>
  bnd (x1 + (1 : Int32)) (fun y3 =>
  k2 a0 y3 m2))))
def X9_dawns_L2   : Nat → Nat → Int32 → Mem → Res
  | 0 => fun _ _ _ => none
  | n + 1 => X9_dawns_L2B (X9_dawns_L2 n)
def f_X9_dawns  (a0 : Nat) (m0 : Mem) : Res :=
  X9_dawns_L2 FU a0 (0 : Int32) m0
set_option maxHeartbeats 2000000 in
theorem s_X9_dawns_L60B {K : KT}  (C : Cx K cX9_dawns RX9 3 7) (Rr : Rx K none)  {k48 : Nat → Int32 → Mem → Res} {k60 : Nat → Int32 → Int32 → Mem → Res} (hk48 : ∀ (a0 : Nat) (x1 : Int32) (h0 : tg a0 = 9) (m0 : Mem), G K 48 [(0, .ref (kf K a0)), (1, .int x1)] [] m0 (k48 a0 x1 m0)) (hk60 : ∀ (a0 : Nat) (x1 : Int32) (x2 : Int32) (h0 : tg a0 = 9) (m0 : Mem), G K 60 [(0, .ref (kf K a0)), (1, .int x1), (2, .int x2)] [] m0 (k60 a0 x1 x2 m0)) (a0 : Nat) (x1 : Int32) (x2 : Int32) (h0 : tg a0 = 9) (m0 : Mem) : G K 60 [(0, .ref (kf K a0)), (1, .int x1), (2, .int x2)] [] m0 (X9_dawns_L60B k48 k60 a0 x1 x2 m0) := by
  unfold X9_dawns_L60B
  refine g_iload_n C dX9_dawns_60 2 rfl rfl ?_
  refine g_bipush C (6 : Int32) dX9_dawns_61 rfl ?_
  refine g_icmp_ge C 90 dX9_dawns_63 (by decide) (fun _ => ?_) (fun _ => ?_)
  · refine g_iinc (k := 1) C dX9_dawns_90 rfl (w := (1 : Int32)) rfl (by decide) (fun v_ => [(1, .int v_), (0, .ref (kf K a0)), (2, .int x2)]) (fun _ => rfl) (fun y1 => ?_)
    refine g_goto C 48 dX9_dawns_93 (by decide) ?_
    refine g_sub [1, 0] rfl ?_
    exact hk48 a0 y1 h0 m0
  · refine g_aload_n C dX9_dawns_66 0 rfl rfl ?_
    refine g_iload_n C dX9_dawns_67 1 rfl rfl ?_
    refine g_bipush C (15 : Int32) dX9_dawns_68 rfl ?_
    refine g_iload_n C dX9_dawns_70 2 rfl rfl ?_
    refine g_iadd C dX9_dawns_71 ?_
    refine g_aload_n C dX9_dawns_72 0 rfl rfl ?_
    refine g_iload_n C dX9_dawns_73 1 rfl rfl ?_
    refine g_bipush C (9 : Int32) dX9_dawns_74 rfl ?_
    refine g_iload_n C dX9_dawns_76 2 rfl rfl ?_
    refine g_iadd C dX9_dawns_77 ?_
    refine g_callVi C cv_X9_its (ct_X9_its a0 x1 ((9 : Int32) + x2) h0 m0) q_1031 h0 (by decide) rfl rfl (Nat.le_of_ble_eq_true rfl) dX9_dawns_78 (fun r2 m3 => ?_)
    refine g_callVv C cv_X9_lays1 (ct_X9_lays1 a0 x1 ((15 : Int32) + x2) r2 h0 m3) q_1003 h0 (by decide) rfl rfl (Nat.le_of_ble_eq_true rfl) dX9_dawns_81 (fun r4 m5 => ?_)
    refine g_iinc (k := 2) C dX9_dawns_84 rfl (w := (1 : Int32)) rfl (by decide) (fun v_ => [(2, .int v_), (0, .ref (kf K a0)), (1, .int x1)]) (fun _ => rfl) (fun y6 => ?_)
    refine g_goto C 60 dX9_dawns_87 (by decide) ?_
    refine g_sub [1, 2, 0] rfl ?_
    exact hk60 a0 x1 y6 h0 m5
theorem s_X9_dawns_L60 {K : KT}  (C : Cx K cX9_dawns RX9 3 7) (Rr : Rx K none)  {k48 : Nat → Int32 → Mem → Res} (hk48 : ∀ (a0 : Nat) (x1 : Int32) (h0 : tg a0 = 9) (m0 : Mem), G K 48 [(0, .ref (kf K a0)), (1, .int x1)] [] m0 (k48 a0 x1 m0)) : ∀ (n : Nat) (a0 : Nat) (x1 : Int32) (x2 : Int32) (h0 : tg a0 = 9) (m0 : Mem), G K 60 [(0, .ref (kf K a0)), (1, .int x1), (2, .int x2)] [] m0 (X9_dawns_L60 k48 n a0 x1 x2 m0) := by
  intro n
  induction n with
  | zero => intros; exact g_none
  | succ n ih =>
    intro a0 x1 x2 h0 m0
    exact s_X9_dawns_L60B C Rr hk48 ih a0 x1 x2 h0 m0
set_option maxHeartbeats 2000000 in
theorem s_X9_dawns_L48B {K : KT}  (C : Cx K cX9_dawns RX9 3 7) (Rr : Rx K none)  {k48 : Nat → Int32 → Mem → Res} (hk48 : ∀ (a0 : Nat) (x1 : Int32) (h0 : tg a0 = 9) (m0 : Mem), G K 48 [(0, .ref (kf K a0)), (1, .int x1)] [] m0 (k48 a0 x1 m0)) (a0 : Nat) (x1 : Int32) (h0 : tg a0 = 9) (m0 : Mem) : G K 48 [(0, .ref (kf K a0)), (1, .int x1)] [] m0 (X9_dawns_L48B k48 a0 x1 m0) := by
  unfold X9_dawns_L48B
  refine g_iload_n C dX9_dawns_48 1 rfl rfl ?_
  refine g_aload_n C dX9_dawns_49 0 rfl rfl ?_
  refine g_getr C 0 1 Fx9 h0 (by decide) rfl rfl q_919 dX9_dawns_50 ?_
  refine g_iconst C (0 : Int32) dX9_dawns_53 rfl ?_
  refine g_iald (n := 516) C (cl_9_0 h0) dX9_dawns_54 (fun _ => ?_)
  refine g_icmp_ge C 96 dX9_dawns_55 (by decide) (fun _ => ?_) (fun _ => ?_)
  · exact g_vret C Rr dX9_dawns_96
  · refine g_iconst C (0 : Int32) dX9_dawns_58 rfl ?_
    refine g_istore_n C dX9_dawns_59 rfl (by decide) rfl ?_
    refine g_sub [1, 2, 0] rfl ?_
    exact s_X9_dawns_L60 C Rr hk48 FU a0 x1 (0 : Int32) h0 m0
theorem s_X9_dawns_L48 {K : KT}  (C : Cx K cX9_dawns RX9 3 7) (Rr : Rx K none)    : ∀ (n : Nat) (a0 : Nat) (x1 : Int32) (h0 : tg a0 = 9) (m0 : Mem), G K 48 [(0, .ref (kf K a0)), (1, .int x1)] [] m0 (X9_dawns_L48 n a0 x1 m0) := by
  intro n
  induction n with
  | zero => intros; exact g_none
  | succ n ih =>
    intro a0 x1 h0 m0
    exact s_X9_dawns_L48B C Rr  ih a0 x1 h0 m0
set_option maxHeartbeats 2000000 in
theorem s_X9_dawns_L25B {K : KT}  (C : Cx K cX9_dawns RX9 3 7) (Rr : Rx K none)  {k25 : Nat → Int32 → Mem → Res} (hk25 : ∀ (a0 : Nat) (x1 : Int32) (h0 : tg a0 = 9) (m0 : Mem), G K 25 [(0, .ref (kf K a0)), (1, .int x1)] [] m0 (k25 a0 x1 m0)) (a0 : Nat) (x1 : Int32) (h0 : tg a0 = 9) (m0 : Mem) : G K 25 [(0, .ref (kf K a0)), (1, .int x1)] [] m0 (X9_dawns_L25B k25 a0 x1 m0) := by
  unfold X9_dawns_L25B
  refine g_iload_n C dX9_dawns_25 1 rfl rfl ?_
  refine g_aload_n C dX9_dawns_26 0 rfl rfl ?_
  refine g_getr C 0 1 Fx9 h0 (by decide) rfl rfl q_919 dX9_dawns_27 ?_
  refine g_iconst C (0 : Int32) dX9_dawns_30 rfl ?_
  refine g_iald (n := 516) C (cl_9_0 h0) dX9_dawns_31 (fun _ => ?_)
  refine g_icmp_ge C 46 dX9_dawns_32 (by decide) (fun _ => ?_) (fun _ => ?_)
  · refine g_iconst C (0 : Int32) dX9_dawns_46 rfl ?_
    refine g_istore_n C dX9_dawns_47 rfl (by decide) rfl ?_
    refine g_sub [1, 0] rfl ?_
    exact s_X9_dawns_L48 C Rr FU a0 (0 : Int32) h0 m0
  · refine g_aload_n C dX9_dawns_35 0 rfl rfl ?_
    refine g_iload_n C dX9_dawns_36 1 rfl rfl ?_
    refine g_callVv C cv_X9_buys (ct_X9_buys a0 x1 h0 m0) q_1186 h0 (by decide) rfl rfl (Nat.le_of_ble_eq_true rfl) dX9_dawns_37 (fun r1 m2 => ?_)
    refine g_iinc (k := 1) C dX9_dawns_40 rfl (w := (1 : Int32)) rfl (by decide) (fun v_ => [(1, .int v_), (0, .ref (kf K a0))]) (fun _ => rfl) (fun y3 => ?_)
    refine g_goto C 25 dX9_dawns_43 (by decide) ?_
    refine g_sub [1, 0] rfl ?_
    exact hk25 a0 y3 h0 m2
theorem s_X9_dawns_L25 {K : KT}  (C : Cx K cX9_dawns RX9 3 7) (Rr : Rx K none)    : ∀ (n : Nat) (a0 : Nat) (x1 : Int32) (h0 : tg a0 = 9) (m0 : Mem), G K 25 [(0, .ref (kf K a0)), (1, .int x1)] [] m0 (X9_dawns_L25 n a0 x1 m0) := by
  intro n
  induction n with
  | zero => intros; exact g_none
  | succ n ih =>
    intro a0 x1 h0 m0
    exact s_X9_dawns_L25B C Rr  ih a0 x1 h0 m0
set_option maxHeartbeats 2000000 in
theorem s_X9_dawns_L2B {K : KT}  (C : Cx K cX9_dawns RX9 3 7) (Rr : Rx K none)  {k2 : Nat → Int32 → Mem → Res} (hk2 : ∀ (a0 : Nat) (x1 : Int32) (h0 : tg a0 = 9) (m0 : Mem), G K 2 [(0, .ref (kf K a0)), (1, .int x1)] [] m0 (k2 a0 x1 m0)) (a0 : Nat) (x1 : Int32) (h0 : tg a0 = 9) (m0 : Mem) : G K 2 [(0, .ref (kf K a0)), (1, .int x1)] [] m0 (X9_dawns_L2B k2 a0 x1 m0) := by
  unfold X9_dawns_L2B
  refine g_iload_n C dX9_dawns_2 1 rfl rfl ?_
  refine g_aload_n C dX9_dawns_3 0 rfl rfl ?_
  refine g_getr C 0 1 Fx9 h0 (by decide) rfl rfl q_919 dX9_dawns_4 ?_
  refine g_iconst C (0 : Int32) dX9_dawns_7 rfl ?_
  refine g_iald (n := 516) C (cl_9_0 h0) dX9_dawns_8 (fun _ => ?_)
  refine g_icmp_ge C 23 dX9_dawns_9 (by decide) (fun _ => ?_) (fun _ => ?_)
  · refine g_iconst C (0 : Int32) dX9_dawns_23 rfl ?_
    refine g_istore_n C dX9_dawns_24 rfl (by decide) rfl ?_
    refine g_sub [1, 0] rfl ?_
    exact s_X9_dawns_L25 C Rr FU a0 (0 : Int32) h0 m0
  · refine g_aload_n C dX9_dawns_12 0 rfl rfl ?_
    refine g_iload_n C dX9_dawns_13 1 rfl rfl ?_
    refine g_callVv C cv_X9_fillAll (ct_X9_fillAll a0 x1 h0 m0) q_1176 h0 (by decide) rfl rfl (Nat.le_of_ble_eq_true rfl) dX9_dawns_14 (fun r1 m2 => ?_)
    refine g_iinc (k := 1) C dX9_dawns_17 rfl (w := (1 : Int32)) rfl (by decide) (fun v_ => [(1, .int v_), (0, .ref (kf K a0))]) (fun _ => rfl) (fun y3 => ?_)
    refine g_goto C 2 dX9_dawns_20 (by decide) ?_
    refine g_sub [1, 0] rfl ?_
    exact hk2 a0 y3 h0 m2
theorem s_X9_dawns_L2 {K : KT}  (C : Cx K cX9_dawns RX9 3 7) (Rr : Rx K none)    : ∀ (n : Nat) (a0 : Nat) (x1 : Int32) (h0 : tg a0 = 9) (m0 : Mem), G K 2 [(0, .ref (kf K a0)), (1, .int x1)] [] m0 (X9_dawns_L2 n a0 x1 m0) := by
  intro n
  induction n with
  | zero => intros; exact g_none
  | succ n ih =>
    intro a0 x1 h0 m0
    exact s_X9_dawns_L2B C Rr  ih a0 x1 h0 m0
set_option maxHeartbeats 2000000 in
theorem s_X9_dawns {K : KT}  (C : Cx K cX9_dawns RX9 3 7) (Rr : Rx K none)  (a0 : Nat) (h0 : tg a0 = 9) (m0 : Mem) : G K 0 [(0, .ref (kf K a0))] [] m0 (f_X9_dawns a0 m0) := by
  unfold f_X9_dawns
  refine g_iconst C (0 : Int32) dX9_dawns_0 rfl ?_
  refine g_istore_n C dX9_dawns_1 rfl (by decide) rfl ?_
  refine g_sub [1, 0] rfl ?_
  exact s_X9_dawns_L2 C Rr FU a0 (0 : Int32) h0 m0
theorem ct_X9_dawns {Ω : OT} (a0 : Nat) (h0 : tg a0 = 9) (m0 : Mem) : Ct Ω yX9_dawns cX9_dawns 3 none 7 [.ref (oF Ω a0)] m0 (f_X9_dawns a0 m0) := by
  refine Ct_of (by decide) (Nat.le_of_ble_eq_true rfl) ?_
  intro K hK C Rr
  subst hK
  exact s_X9_dawns C Rr  a0 h0 m0
def X9_morning_L20B  (k8 : Nat → Int32 → Int32 → Mem → Res) (k20 : Nat → Int32 → Int32 → Int32 → Mem → Res) (a0 : Nat) (x1 : Int32) (x2 : Int32) (x3 : Int32) (m0 : Mem) : Res :=
  (if (6 : Int32) ≤ x3 then
  bnd (x2 + (1 : Int32)) (fun y1 =>
  k8 a0 x1 y1 m0)
  else
  cal (f_X9_its a0 x2 ((9 : Int32) + x3) m0) (fun r2 m3 =>
  bnd (x1 + r2) (fun y4 =>
  bnd (x3 + (1 : Int32)) (fun y5 =>
  k20 a0 y4 x2 y5 m3))))
def X9_morning_L20  (k8 : Nat → Int32 → Int32 → Mem → Res) : Nat → Nat → Int32 → Int32 → Int32 → Mem → Res
  | 0 => fun _ _ _ _ _ => none
  | n + 1 => X9_morning_L20B k8 (X9_morning_L20 k8 n)
def X9_morning_L8B  (k8 : Nat → Int32 → Int32 → Mem → Res) (a0 : Nat) (x1 : Int32) (x2 : Int32) (m0 : Mem) : Res :=
  gd (inb (0 : Int32) 516) (
  (if (m0 (a0 + 1) (0 : Int32).toNatClampNeg) ≤ x2 then
  some (x1, m0)
  else
  X9_morning_L20 k8 FU a0 x1 x2 (0 : Int32) m0))
def X9_morning_L8   : Nat → Nat → Int32 → Int32 → Mem → Res
  | 0 => fun _ _ _ _ => none
  | n + 1 => X9_morning_L8B (X9_morning_L8 n)
def f_X9_morning  (a0 : Nat) (m0 : Mem) : Res :=
  cal (f_X9_dawns a0 m0) (fun r1 m2 =>
  X9_morning_L8 FU a0 (0 : Int32) (0 : Int32) m2)
set_option maxHeartbeats 2000000 in
theorem s_X9_morning_L20B {K : KT}  (C : Cx K cX9_morning RX9 4 8) (Rr : Rx K (some .int))  {k8 : Nat → Int32 → Int32 → Mem → Res} {k20 : Nat → Int32 → Int32 → Int32 → Mem → Res} (hk8 : ∀ (a0 : Nat) (x1 : Int32) (x2 : Int32) (h0 : tg a0 = 9) (m0 : Mem), G K 8 [(0, .ref (kf K a0)), (1, .int x1), (2, .int x2)] [] m0 (k8 a0 x1 x2 m0)) (hk20 : ∀ (a0 : Nat) (x1 : Int32) (x2 : Int32) (x3 : Int32) (h0 : tg a0 = 9) (m0 : Mem), G K 20 [(0, .ref (kf K a0)), (1, .int x1), (2, .int x2), (3, .int x3)] [] m0 (k20 a0 x1 x2 x3 m0)) (a0 : Nat) (x1 : Int32) (x2 : Int32) (x3 : Int32) (h0 : tg a0 = 9) (m0 : Mem) : G K 20 [(0, .ref (kf K a0)), (1, .int x1), (2, .int x2), (3, .int x3)] [] m0 (X9_morning_L20B k8 k20 a0 x1 x2 x3 m0) := by
  unfold X9_morning_L20B
  refine g_iload_n C dX9_morning_20 3 rfl rfl ?_
  refine g_bipush C (6 : Int32) dX9_morning_21 rfl ?_
  refine g_icmp_ge C 44 dX9_morning_23 (by decide) (fun _ => ?_) (fun _ => ?_)
  · refine g_iinc (k := 2) C dX9_morning_44 rfl (w := (1 : Int32)) rfl (by decide) (fun v_ => [(2, .int v_), (0, .ref (kf K a0)), (1, .int x1), (3, .int x3)]) (fun _ => rfl) (fun y1 => ?_)
    refine g_goto C 8 dX9_morning_47 (by decide) ?_
    refine g_sub [1, 2, 0] rfl ?_
    exact hk8 a0 x1 y1 h0 m0
  · refine g_iload_n C dX9_morning_26 1 rfl rfl ?_
    refine g_aload_n C dX9_morning_27 0 rfl rfl ?_
    refine g_iload_n C dX9_morning_28 2 rfl rfl ?_
    refine g_bipush C (9 : Int32) dX9_morning_29 rfl ?_
    refine g_iload_n C dX9_morning_31 3 rfl rfl ?_
    refine g_iadd C dX9_morning_32 ?_
    refine g_callVi C cv_X9_its (ct_X9_its a0 x2 ((9 : Int32) + x3) h0 m0) q_1031 h0 (by decide) rfl rfl (Nat.le_of_ble_eq_true rfl) dX9_morning_33 (fun r2 m3 => ?_)
    refine g_iadd C dX9_morning_36 ?_
    refine g_bnd (fun y4 => ?_)
    refine g_istore_n C dX9_morning_37 rfl (by decide) rfl ?_
    refine g_iinc (k := 3) C dX9_morning_38 rfl (w := (1 : Int32)) rfl (by decide) (fun v_ => [(3, .int v_), (1, .int y4), (0, .ref (kf K a0)), (2, .int x2)]) (fun _ => rfl) (fun y5 => ?_)
    refine g_goto C 20 dX9_morning_41 (by decide) ?_
    refine g_sub [2, 1, 3, 0] rfl ?_
    exact hk20 a0 y4 x2 y5 h0 m3
theorem s_X9_morning_L20 {K : KT}  (C : Cx K cX9_morning RX9 4 8) (Rr : Rx K (some .int))  {k8 : Nat → Int32 → Int32 → Mem → Res} (hk8 : ∀ (a0 : Nat) (x1 : Int32) (x2 : Int32) (h0 : tg a0 = 9) (m0 : Mem), G K 8 [(0, .ref (kf K a0)), (1, .int x1), (2, .int x2)] [] m0 (k8 a0 x1 x2 m0)) : ∀ (n : Nat) (a0 : Nat) (x1 : Int32) (x2 : Int32) (x3 : Int32) (h0 : tg a0 = 9) (m0 : Mem), G K 20 [(0, .ref (kf K a0)), (1, .int x1), (2, .int x2), (3, .int x3)] [] m0 (X9_morning_L20 k8 n a0 x1 x2 x3 m0) := by
  intro n
  induction n with
  | zero => intros; exact g_none
  | succ n ih =>
    intro a0 x1 x2 x3 h0 m0
    exact s_X9_morning_L20B C Rr hk8 ih a0 x1 x2 x3 h0 m0
set_option maxHeartbeats 2000000 in
theorem s_X9_morning_L8B {K : KT}  (C : Cx K cX9_morning RX9 4 8) (Rr : Rx K (some .int))  {k8 : Nat → Int32 → Int32 → Mem → Res} (hk8 : ∀ (a0 : Nat) (x1 : Int32) (x2 : Int32) (h0 : tg a0 = 9) (m0 : Mem), G K 8 [(0, .ref (kf K a0)), (1, .int x1), (2, .int x2)] [] m0 (k8 a0 x1 x2 m0)) (a0 : Nat) (x1 : Int32) (x2 : Int32) (h0 : tg a0 = 9) (m0 : Mem) : G K 8 [(0, .ref (kf K a0)), (1, .int x1), (2, .int x2)] [] m0 (X9_morning_L8B k8 a0 x1 x2 m0) := by
  unfold X9_morning_L8B
  refine g_iload_n C dX9_morning_8 2 rfl rfl ?_
  refine g_aload_n C dX9_morning_9 0 rfl rfl ?_
  refine g_getr C 0 1 Fx9 h0 (by decide) rfl rfl q_919 dX9_morning_10 ?_
  refine g_iconst C (0 : Int32) dX9_morning_13 rfl ?_
  refine g_iald (n := 516) C (cl_9_0 h0) dX9_morning_14 (fun _ => ?_)
  refine g_icmp_ge C 50 dX9_morning_15 (by decide) (fun _ => ?_) (fun _ => ?_)
  · refine g_iload_n C dX9_morning_50 1 rfl rfl ?_
    exact g_iret C Rr dX9_morning_51
  · refine g_iconst C (0 : Int32) dX9_morning_18 rfl ?_
    refine g_istore_n C dX9_morning_19 rfl (by decide) rfl ?_
    refine g_sub [1, 2, 3, 0] rfl ?_
    exact s_X9_morning_L20 C Rr hk8 FU a0 x1 x2 (0 : Int32) h0 m0
theorem s_X9_morning_L8 {K : KT}  (C : Cx K cX9_morning RX9 4 8) (Rr : Rx K (some .int))    : ∀ (n : Nat) (a0 : Nat) (x1 : Int32) (x2 : Int32) (h0 : tg a0 = 9) (m0 : Mem), G K 8 [(0, .ref (kf K a0)), (1, .int x1), (2, .int x2)] [] m0 (X9_morning_L8 n a0 x1 x2 m0) := by
  intro n
  induction n with
  | zero => intros; exact g_none
  | succ n ih =>
    intro a0 x1 x2 h0 m0
    exact s_X9_morning_L8B C Rr  ih a0 x1 x2 h0 m0
set_option maxHeartbeats 2000000 in
theorem s_X9_morning {K : KT}  (C : Cx K cX9_morning RX9 4 8) (Rr : Rx K (some .int))  (a0 : Nat) (h0 : tg a0 = 9) (m0 : Mem) : G K 0 [(0, .ref (kf K a0))] [] m0 (f_X9_morning a0 m0) := by
  unfold f_X9_morning
  refine g_aload_n C dX9_morning_0 0 rfl rfl ?_
  refine g_callVv C cv_X9_dawns (ct_X9_dawns a0 h0 m0) q_1172 h0 (by decide) rfl rfl (Nat.le_of_ble_eq_true rfl) dX9_morning_1 (fun r1 m2 => ?_)
  refine g_iconst C (0 : Int32) dX9_morning_4 rfl ?_
  refine g_istore_n C dX9_morning_5 rfl (by decide) rfl ?_
  refine g_iconst C (0 : Int32) dX9_morning_6 rfl ?_
  refine g_istore_n C dX9_morning_7 rfl (by decide) rfl ?_
  refine g_sub [2, 1, 0] rfl ?_
  exact s_X9_morning_L8 C Rr FU a0 (0 : Int32) (0 : Int32) h0 m2
theorem ct_X9_morning {Ω : OT} (a0 : Nat) (h0 : tg a0 = 9) (m0 : Mem) : Ct Ω yX9_morning cX9_morning 4 (some .int) 8 [.ref (oF Ω a0)] m0 (f_X9_morning a0 m0) := by
  refine Ct_of (by decide) (Nat.le_of_ble_eq_true rfl) ?_
  intro K hK C Rr
  subst hK
  exact s_X9_morning C Rr  a0 h0 m0
def X9_shopOn_J25    (m0 : Mem) : Res :=
  some ((-1 : Int32), m0)
def X9_shopOn_J49   (xs0 : Int32) (m0 : Mem) : Res :=
  some (xs0, m0)
def X9_shopOn_J27   (a0 : Nat) (x1 : Int32) (x2 : Int32) (x3 : Int32) (m0 : Mem) : Res :=
  cal (f_X9_of a0 x1 (2 : Int32) m0) (fun r1 m2 =>
  (if r1 = 0 then
  gd (!(x3 == 0)) (
  X9_shopOn_J49 (irm x2 x3) m2)
  else
  gd (!(x3 == 0)) (
  X9_shopOn_J49 ((x3 - (1 : Int32)) - (irm x2 x3)) m2)))
def f_X9_shopOn  (a0 : Nat) (x1 : Int32) (x2 : Int32) (m0 : Mem) : Res :=
  gd (inb (0 : Int32) 516) (
  bnd (m0 (a0 + 1) (0 : Int32).toNatClampNeg) (fun y1 =>
  (if y1 = 0 then
  X9_shopOn_J25 m0
  else
  gd (inb (4 : Int32) 516) (
  (if (m0 (a0 + 1) (4 : Int32).toNatClampNeg) = 0 then
  (if x2 < y1 then
  X9_shopOn_J27 a0 x1 x2 y1 m0
  else
  X9_shopOn_J25 m0)
  else
  X9_shopOn_J27 a0 x1 x2 y1 m0)))))
set_option maxHeartbeats 2000000 in
theorem s_X9_shopOn_J25 {K : KT}  (C : Cx K cX9_shopOn RX9 4 2) (Rr : Rx K (some .int))      (m0 : Mem) : G K 25 [] [] m0 (X9_shopOn_J25 m0) := by
  unfold X9_shopOn_J25
  refine g_iconst C (-1 : Int32) dX9_shopOn_25 rfl ?_
  exact g_iret C Rr dX9_shopOn_26
set_option maxHeartbeats 2000000 in
theorem s_X9_shopOn_J49 {K : KT}  (C : Cx K cX9_shopOn RX9 4 2) (Rr : Rx K (some .int))    (xs0 : Int32)  (m0 : Mem) : G K 49 [] [.int xs0] m0 (X9_shopOn_J49 xs0 m0) := by
  unfold X9_shopOn_J49
  exact g_iret C Rr dX9_shopOn_49
set_option maxHeartbeats 2000000 in
theorem s_X9_shopOn_J27 {K : KT}  (C : Cx K cX9_shopOn RX9 4 2) (Rr : Rx K (some .int))    (a0 : Nat) (x1 : Int32) (x2 : Int32) (x3 : Int32) (h0 : tg a0 = 9) (m0 : Mem) : G K 27 [(0, .ref (kf K a0)), (1, .int x1), (2, .int x2), (3, .int x3)] [] m0 (X9_shopOn_J27 a0 x1 x2 x3 m0) := by
  unfold X9_shopOn_J27
  refine g_aload_n C dX9_shopOn_27 0 rfl rfl ?_
  refine g_iload_n C dX9_shopOn_28 1 rfl rfl ?_
  refine g_iconst C (2 : Int32) dX9_shopOn_29 rfl ?_
  refine g_callVi C cv_X9_of (ct_X9_of a0 x1 (2 : Int32) h0 m0) q_1069 h0 (by decide) rfl rfl (Nat.le_of_ble_eq_true rfl) dX9_shopOn_30 (fun r1 m2 => ?_)
  refine g_if_ne C 42 dX9_shopOn_33 (by decide) (fun _ => ?_) (fun _ => ?_)
  · refine g_iload_n C dX9_shopOn_42 3 rfl rfl ?_
    refine g_iconst C (1 : Int32) dX9_shopOn_43 rfl ?_
    refine g_isub C dX9_shopOn_44 ?_
    refine g_iload_n C dX9_shopOn_45 2 rfl rfl ?_
    refine g_iload_n C dX9_shopOn_46 3 rfl rfl ?_
    refine g_irem C dX9_shopOn_47 (fun _ => ?_)
    refine g_isub C dX9_shopOn_48 ?_
    refine g_sub [] rfl ?_
    exact s_X9_shopOn_J49 C Rr ((x3 - (1 : Int32)) - (irm x2 x3)) m2
  · refine g_iload_n C dX9_shopOn_36 2 rfl rfl ?_
    refine g_iload_n C dX9_shopOn_37 3 rfl rfl ?_
    refine g_irem C dX9_shopOn_38 (fun _ => ?_)
    refine g_goto C 49 dX9_shopOn_39 (by decide) ?_
    refine g_sub [] rfl ?_
    exact s_X9_shopOn_J49 C Rr (irm x2 x3) m2
set_option maxHeartbeats 2000000 in
theorem s_X9_shopOn {K : KT}  (C : Cx K cX9_shopOn RX9 4 2) (Rr : Rx K (some .int))  (a0 : Nat) (x1 : Int32) (x2 : Int32) (h0 : tg a0 = 9) (m0 : Mem) : G K 0 [(0, .ref (kf K a0)), (1, .int x1), (2, .int x2)] [] m0 (f_X9_shopOn a0 x1 x2 m0) := by
  unfold f_X9_shopOn
  refine g_aload_n C dX9_shopOn_0 0 rfl rfl ?_
  refine g_getr C 0 1 Fx9 h0 (by decide) rfl rfl q_919 dX9_shopOn_1 ?_
  refine g_iconst C (0 : Int32) dX9_shopOn_4 rfl ?_
  refine g_iald (n := 516) C (cl_9_0 h0) dX9_shopOn_5 (fun _ => ?_)
  refine g_bnd (fun y1 => ?_)
  refine g_istore_n C dX9_shopOn_6 rfl (by decide) rfl ?_
  refine g_iload_n C dX9_shopOn_7 0 rfl rfl ?_
  refine g_if_eq C 25 dX9_shopOn_8 (by decide) (fun _ => ?_) (fun _ => ?_)
  · refine g_sub [] rfl ?_
    exact s_X9_shopOn_J25 C Rr m0
  · refine g_aload_n C dX9_shopOn_11 1 rfl rfl ?_
    refine g_getr C 0 1 Fx9 h0 (by decide) rfl rfl q_919 dX9_shopOn_12 ?_
    refine g_iconst C (4 : Int32) dX9_shopOn_15 rfl ?_
    refine g_iald (n := 516) C (cl_9_0 h0) dX9_shopOn_16 (fun _ => ?_)
    refine g_if_ne C 27 dX9_shopOn_17 (by decide) (fun _ => ?_) (fun _ => ?_)
    · refine g_sub [1, 2, 3, 0] rfl ?_
      exact s_X9_shopOn_J27 C Rr a0 x1 x2 y1 h0 m0
    · refine g_iload_n C dX9_shopOn_20 3 rfl rfl ?_
      refine g_iload_n C dX9_shopOn_21 0 rfl rfl ?_
      refine g_icmp_lt C 27 dX9_shopOn_22 (by decide) (fun _ => ?_) (fun _ => ?_)
      · refine g_sub [1, 2, 3, 0] rfl ?_
        exact s_X9_shopOn_J27 C Rr a0 x1 x2 y1 h0 m0
      · refine g_sub [] rfl ?_
        exact s_X9_shopOn_J25 C Rr m0
theorem ct_X9_shopOn {Ω : OT} (a0 : Nat) (x1 : Int32) (x2 : Int32) (h0 : tg a0 = 9) (m0 : Mem) : Ct Ω yX9_shopOn cX9_shopOn 4 (some .int) 2 [.ref (oF Ω a0), .int x1, .int x2] m0 (f_X9_shopOn a0 x1 x2 m0) := by
  refine Ct_of (by decide) (Nat.le_of_ble_eq_true rfl) ?_
  intro K hK C Rr
  subst hK
  exact s_X9_shopOn C Rr  a0 x1 x2 h0 m0
def X9_visits_J178   (x2 : Int32) (m0 : Mem) : Res :=
  some (x2, m0)
def X9_visits_J166  (k12 : Nat → Int32 → Int32 → Int32 → Int32 → Mem → Res) (k46 : Nat → Int32 → Int32 → Int32 → Int32 → Int32 → Int32 → Mem → Res) (a0 : Nat) (x1 : Int32) (x2 : Int32) (x3 : Int32) (x4 : Int32) (x5 : Int32) (x6 : Int32) (m0 : Mem) : Res :=
  bnd (x6 + (1 : Int32)) (fun y1 =>
  k46 a0 x1 x2 x3 x4 x5 y1 m0)
def X9_visits_J82  (k12 : Nat → Int32 → Int32 → Int32 → Int32 → Mem → Res) (k46 : Nat → Int32 → Int32 → Int32 → Int32 → Int32 → Int32 → Mem → Res) (a0 : Nat) (x1 : Int32) (x2 : Int32) (x3 : Int32) (x4 : Int32) (x5 : Int32) (x6 : Int32) (xs0 : Int32) (m0 : Mem) : Res :=
  (if xs0 = 0 then
  X9_visits_J166 k12 k46 a0 x1 x2 x3 x4 x5 x6 m0
  else
  cal (f_X9_may a0 x5 x6 m0) (fun r1 m2 =>
  (if r1 = 0 then
  X9_visits_J166 k12 k46 a0 x1 x2 x3 x4 x5 x6 m2
  else
  cal (f_X9_priceOf a0 x5 x6 m2) (fun r3 m4 =>
  (if x3 < r3 then
  X9_visits_J166 k12 k46 a0 x1 x2 x3 x4 x5 x6 m4
  else
  cal (f_X9_priceOf a0 x5 x6 m4) (fun r5 m6 =>
  bnd (x3 - r5) (fun y7 =>
  cal (f_X9_gets a0 x5 r5 m6) (fun r8 m9 =>
  cal (f_X9_its a0 x5 ((9 : Int32) + x6) m9) (fun r10 m11 =>
  cal (f_X9_lays1 a0 x5 ((9 : Int32) + x6) (r10 - (1 : Int32)) m11) (fun r12 m13 =>
  bnd (x2 ||| (isl (1 : Int32) x6)) (fun y14 =>
  X9_visits_J166 k12 k46 a0 x1 y14 y7 x4 x5 x6 m13)))))))))))
def X9_visits_J81  (k12 : Nat → Int32 → Int32 → Int32 → Int32 → Mem → Res) (k46 : Nat → Int32 → Int32 → Int32 → Int32 → Int32 → Int32 → Mem → Res) (a0 : Nat) (x1 : Int32) (x2 : Int32) (x3 : Int32) (x4 : Int32) (x5 : Int32) (x6 : Int32) (m0 : Mem) : Res :=
  X9_visits_J82 k12 k46 a0 x1 x2 x3 x4 x5 x6 (0 : Int32) m0
def X9_visits_L46B  (k12 : Nat → Int32 → Int32 → Int32 → Int32 → Mem → Res) (k46 : Nat → Int32 → Int32 → Int32 → Int32 → Int32 → Int32 → Mem → Res) (a0 : Nat) (x1 : Int32) (x2 : Int32) (x3 : Int32) (x4 : Int32) (x5 : Int32) (x6 : Int32) (m0 : Mem) : Res :=
  (if (6 : Int32) ≤ x6 then
  bnd (x4 + (1 : Int32)) (fun y1 =>
  k12 a0 x1 x2 x3 y1 m0)
  else
  cal (f_X9_of a0 x1 (0 : Int32) m0) (fun r2 m3 =>
  (if ((isr r2 x6) &&& (1 : Int32)) = (1 : Int32) then
  (if ((isr x2 x6) &&& (1 : Int32)) = 0 then
  X9_visits_J82 k12 k46 a0 x1 x2 x3 x4 x5 x6 (1 : Int32) m3
  else
  X9_visits_J81 k12 k46 a0 x1 x2 x3 x4 x5 x6 m3)
  else
  X9_visits_J81 k12 k46 a0 x1 x2 x3 x4 x5 x6 m3)))
def X9_visits_L46  (k12 : Nat → Int32 → Int32 → Int32 → Int32 → Mem → Res) : Nat → Nat → Int32 → Int32 → Int32 → Int32 → Int32 → Int32 → Mem → Res
  | 0 => fun _ _ _ _ _ _ _ _ => none
  | n + 1 => X9_visits_L46B k12 (X9_visits_L46 k12 n)
def X9_visits_L12B  (k12 : Nat → Int32 → Int32 → Int32 → Int32 → Mem → Res) (a0 : Nat) (x1 : Int32) (x2 : Int32) (x3 : Int32) (x4 : Int32) (m0 : Mem) : Res :=
  cal (f_X9_of a0 x1 (1 : Int32) m0) (fun r1 m2 =>
  (if r1 ≤ x4 then
  X9_visits_J178 x2 m2
  else
  cal (f_X9_shopOn a0 x1 x4 m2) (fun r3 m4 =>
  (if r3 = (-1 : Int32) then
  X9_visits_J178 x2 m4
  else
  cal (f_X9_shopOn a0 x1 x4 m4) (fun r5 m6 =>
  X9_visits_L46 k12 FU a0 x1 x2 x3 x4 r5 (0 : Int32) m6)))))
def X9_visits_L12   : Nat → Nat → Int32 → Int32 → Int32 → Int32 → Mem → Res
  | 0 => fun _ _ _ _ _ _ => none
  | n + 1 => X9_visits_L12B (X9_visits_L12 n)
def f_X9_visits  (a0 : Nat) (x1 : Int32) (m0 : Mem) : Res :=
  cal (f_X9_of a0 x1 (3 : Int32) m0) (fun r1 m2 =>
  X9_visits_L12 FU a0 x1 (0 : Int32) r1 (0 : Int32) m2)
set_option maxHeartbeats 2000000 in
theorem s_X9_visits_J178 {K : KT}  (C : Cx K cX9_visits RX9 9 5) (Rr : Rx K (some .int))    (x2 : Int32)  (m0 : Mem) : G K 178 [(2, .int x2)] [] m0 (X9_visits_J178 x2 m0) := by
  unfold X9_visits_J178
  refine g_iload_n C dX9_visits_178 0 rfl rfl ?_
  exact g_iret C Rr dX9_visits_179
set_option maxHeartbeats 2000000 in
theorem s_X9_visits_J166 {K : KT}  (C : Cx K cX9_visits RX9 9 5) (Rr : Rx K (some .int))  {k12 : Nat → Int32 → Int32 → Int32 → Int32 → Mem → Res} {k46 : Nat → Int32 → Int32 → Int32 → Int32 → Int32 → Int32 → Mem → Res} (hk12 : ∀ (a0 : Nat) (x1 : Int32) (x2 : Int32) (x3 : Int32) (x4 : Int32) (h0 : tg a0 = 9) (m0 : Mem), G K 12 [(0, .ref (kf K a0)), (1, .int x1), (2, .int x2), (3, .int x3), (4, .int x4)] [] m0 (k12 a0 x1 x2 x3 x4 m0)) (hk46 : ∀ (a0 : Nat) (x1 : Int32) (x2 : Int32) (x3 : Int32) (x4 : Int32) (x5 : Int32) (x6 : Int32) (h0 : tg a0 = 9) (m0 : Mem), G K 46 [(0, .ref (kf K a0)), (1, .int x1), (2, .int x2), (3, .int x3), (4, .int x4), (5, .int x5), (6, .int x6)] [] m0 (k46 a0 x1 x2 x3 x4 x5 x6 m0)) (a0 : Nat) (x1 : Int32) (x2 : Int32) (x3 : Int32) (x4 : Int32) (x5 : Int32) (x6 : Int32) (h0 : tg a0 = 9) (m0 : Mem) : G K 166 [(0, .ref (kf K a0)), (1, .int x1), (2, .int x2), (3, .int x3), (4, .int x4), (5, .int x5), (6, .int x6)] [] m0 (X9_visits_J166 k12 k46 a0 x1 x2 x3 x4 x5 x6 m0) := by
  unfold X9_visits_J166
  refine g_iinc (k := 6) C dX9_visits_166 rfl (w := (1 : Int32)) rfl (by decide) (fun v_ => [(6, .int v_), (0, .ref (kf K a0)), (1, .int x1), (2, .int x2), (3, .int x3), (4, .int x4), (5, .int x5)]) (fun _ => rfl) (fun y1 => ?_)
  refine g_goto C 46 dX9_visits_169 (by decide) ?_
  refine g_sub [1, 2, 3, 4, 5, 6, 0] rfl ?_
  exact hk46 a0 x1 x2 x3 x4 x5 y1 h0 m0
set_option maxHeartbeats 2000000 in
theorem s_X9_visits_J82 {K : KT}  (C : Cx K cX9_visits RX9 9 5) (Rr : Rx K (some .int))  {k12 : Nat → Int32 → Int32 → Int32 → Int32 → Mem → Res} {k46 : Nat → Int32 → Int32 → Int32 → Int32 → Int32 → Int32 → Mem → Res} (hk12 : ∀ (a0 : Nat) (x1 : Int32) (x2 : Int32) (x3 : Int32) (x4 : Int32) (h0 : tg a0 = 9) (m0 : Mem), G K 12 [(0, .ref (kf K a0)), (1, .int x1), (2, .int x2), (3, .int x3), (4, .int x4)] [] m0 (k12 a0 x1 x2 x3 x4 m0)) (hk46 : ∀ (a0 : Nat) (x1 : Int32) (x2 : Int32) (x3 : Int32) (x4 : Int32) (x5 : Int32) (x6 : Int32) (h0 : tg a0 = 9) (m0 : Mem), G K 46 [(0, .ref (kf K a0)), (1, .int x1), (2, .int x2), (3, .int x3), (4, .int x4), (5, .int x5), (6, .int x6)] [] m0 (k46 a0 x1 x2 x3 x4 x5 x6 m0)) (a0 : Nat) (x1 : Int32) (x2 : Int32) (x3 : Int32) (x4 : Int32) (x5 : Int32) (x6 : Int32) (xs0 : Int32) (h0 : tg a0 = 9) (m0 : Mem) : G K 82 [(0, .ref (kf K a0)), (1, .int x1), (2, .int x2), (3, .int x3), (4, .int x4), (5, .int x5), (6, .int x6)] [.int xs0] m0 (X9_visits_J82 k12 k46 a0 x1 x2 x3 x4 x5 x6 xs0 m0) := by
  unfold X9_visits_J82
  refine g_istore C dX9_visits_82 (by decide) rfl ?_
  refine g_iload C dX9_visits_84 0 rfl ?_
  refine g_if_eq C 166 dX9_visits_86 (by decide) (fun _ => ?_) (fun _ => ?_)
  · refine g_sub [1, 2, 3, 4, 5, 6, 7] rfl ?_
    exact s_X9_visits_J166 C Rr hk12 hk46 a0 x1 x2 x3 x4 x5 x6 h0 m0
  · refine g_aload_n C dX9_visits_89 1 rfl rfl ?_
    refine g_iload C dX9_visits_90 6 rfl ?_
    refine g_iload C dX9_visits_92 7 rfl ?_
    refine g_callVi C cv_X9_may (ct_X9_may a0 x5 x6 h0 m0) q_1023 h0 (by decide) rfl rfl (Nat.le_of_ble_eq_true rfl) dX9_visits_94 (fun r1 m2 => ?_)
    refine g_if_eq C 166 dX9_visits_97 (by decide) (fun _ => ?_) (fun _ => ?_)
    · refine g_sub [1, 2, 3, 4, 5, 6, 7] rfl ?_
      exact s_X9_visits_J166 C Rr hk12 hk46 a0 x1 x2 x3 x4 x5 x6 h0 m2
    · refine g_aload_n C dX9_visits_100 1 rfl rfl ?_
      refine g_iload C dX9_visits_101 6 rfl ?_
      refine g_iload C dX9_visits_103 7 rfl ?_
      refine g_callVi C cv_X9_priceOf (ct_X9_priceOf a0 x5 x6 h0 m2) q_1138 h0 (by decide) rfl rfl (Nat.le_of_ble_eq_true rfl) dX9_visits_105 (fun r3 m4 => ?_)
      refine g_iload_n C dX9_visits_108 4 rfl rfl ?_
      refine g_icmp_gt C 166 dX9_visits_109 (by decide) (fun _ => ?_) (fun _ => ?_)
      · refine g_sub [1, 2, 3, 4, 5, 6, 7] rfl ?_
        exact s_X9_visits_J166 C Rr hk12 hk46 a0 x1 x2 x3 x4 x5 x6 h0 m4
      · refine g_aload_n C dX9_visits_112 1 rfl rfl ?_
        refine g_iload C dX9_visits_113 6 rfl ?_
        refine g_iload C dX9_visits_115 7 rfl ?_
        refine g_callVi C cv_X9_priceOf (ct_X9_priceOf a0 x5 x6 h0 m4) q_1138 h0 (by decide) rfl rfl (Nat.le_of_ble_eq_true rfl) dX9_visits_117 (fun r5 m6 => ?_)
        refine g_istore C dX9_visits_120 (by decide) rfl ?_
        refine g_iload_n C dX9_visits_122 5 rfl rfl ?_
        refine g_iload C dX9_visits_123 0 rfl ?_
        refine g_isub C dX9_visits_125 ?_
        refine g_bnd (fun y7 => ?_)
        refine g_istore_n C dX9_visits_126 rfl (by decide) rfl ?_
        refine g_aload_n C dX9_visits_127 3 rfl rfl ?_
        refine g_iload C dX9_visits_128 7 rfl ?_
        refine g_iload C dX9_visits_130 1 rfl ?_
        refine g_callVv C cv_X9_gets (ct_X9_gets a0 x5 r5 h0 m6) q_1180 h0 (by decide) rfl rfl (Nat.le_of_ble_eq_true rfl) dX9_visits_132 (fun r8 m9 => ?_)
        refine g_aload_n C dX9_visits_135 3 rfl rfl ?_
        refine g_iload C dX9_visits_136 7 rfl ?_
        refine g_bipush C (9 : Int32) dX9_visits_138 rfl ?_
        refine g_iload C dX9_visits_140 8 rfl ?_
        refine g_iadd C dX9_visits_142 ?_
        refine g_aload_n C dX9_visits_143 3 rfl rfl ?_
        refine g_iload C dX9_visits_144 7 rfl ?_
        refine g_bipush C (9 : Int32) dX9_visits_146 rfl ?_
        refine g_iload C dX9_visits_148 8 rfl ?_
        refine g_iadd C dX9_visits_150 ?_
        refine g_callVi C cv_X9_its (ct_X9_its a0 x5 ((9 : Int32) + x6) h0 m9) q_1031 h0 (by decide) rfl rfl (Nat.le_of_ble_eq_true rfl) dX9_visits_151 (fun r10 m11 => ?_)
        refine g_iconst C (1 : Int32) dX9_visits_154 rfl ?_
        refine g_isub C dX9_visits_155 ?_
        refine g_callVv C cv_X9_lays1 (ct_X9_lays1 a0 x5 ((9 : Int32) + x6) (r10 - (1 : Int32)) h0 m11) q_1003 h0 (by decide) rfl rfl (Nat.le_of_ble_eq_true rfl) dX9_visits_156 (fun r12 m13 => ?_)
        refine g_iload_n C dX9_visits_159 5 rfl rfl ?_
        refine g_iconst C (1 : Int32) dX9_visits_160 rfl ?_
        refine g_iload C dX9_visits_161 8 rfl ?_
        refine g_ishl C dX9_visits_163 ?_
        refine g_ior C dX9_visits_164 ?_
        refine g_bnd (fun y14 => ?_)
        refine g_istore_n C dX9_visits_165 rfl (by decide) rfl ?_
        refine g_sub [4, 5, 0, 1, 6, 7, 8] rfl ?_
        exact s_X9_visits_J166 C Rr hk12 hk46 a0 x1 y14 y7 x4 x5 x6 h0 m13
set_option maxHeartbeats 2000000 in
theorem s_X9_visits_J81 {K : KT}  (C : Cx K cX9_visits RX9 9 5) (Rr : Rx K (some .int))  {k12 : Nat → Int32 → Int32 → Int32 → Int32 → Mem → Res} {k46 : Nat → Int32 → Int32 → Int32 → Int32 → Int32 → Int32 → Mem → Res} (hk12 : ∀ (a0 : Nat) (x1 : Int32) (x2 : Int32) (x3 : Int32) (x4 : Int32) (h0 : tg a0 = 9) (m0 : Mem), G K 12 [(0, .ref (kf K a0)), (1, .int x1), (2, .int x2), (3, .int x3), (4, .int x4)] [] m0 (k12 a0 x1 x2 x3 x4 m0)) (hk46 : ∀ (a0 : Nat) (x1 : Int32) (x2 : Int32) (x3 : Int32) (x4 : Int32) (x5 : Int32) (x6 : Int32) (h0 : tg a0 = 9) (m0 : Mem), G K 46 [(0, .ref (kf K a0)), (1, .int x1), (2, .int x2), (3, .int x3), (4, .int x4), (5, .int x5), (6, .int x6)] [] m0 (k46 a0 x1 x2 x3 x4 x5 x6 m0)) (a0 : Nat) (x1 : Int32) (x2 : Int32) (x3 : Int32) (x4 : Int32) (x5 : Int32) (x6 : Int32) (h0 : tg a0 = 9) (m0 : Mem) : G K 81 [(0, .ref (kf K a0)), (1, .int x1), (2, .int x2), (3, .int x3), (4, .int x4), (5, .int x5), (6, .int x6)] [] m0 (X9_visits_J81 k12 k46 a0 x1 x2 x3 x4 x5 x6 m0) := by
  unfold X9_visits_J81
  refine g_iconst C (0 : Int32) dX9_visits_81 rfl ?_
  refine g_sub [0, 1, 2, 3, 4, 5, 6] rfl ?_
  exact s_X9_visits_J82 C Rr hk12 hk46 a0 x1 x2 x3 x4 x5 x6 (0 : Int32) h0 m0
set_option maxHeartbeats 2000000 in
theorem s_X9_visits_L46B {K : KT}  (C : Cx K cX9_visits RX9 9 5) (Rr : Rx K (some .int))  {k12 : Nat → Int32 → Int32 → Int32 → Int32 → Mem → Res} {k46 : Nat → Int32 → Int32 → Int32 → Int32 → Int32 → Int32 → Mem → Res} (hk12 : ∀ (a0 : Nat) (x1 : Int32) (x2 : Int32) (x3 : Int32) (x4 : Int32) (h0 : tg a0 = 9) (m0 : Mem), G K 12 [(0, .ref (kf K a0)), (1, .int x1), (2, .int x2), (3, .int x3), (4, .int x4)] [] m0 (k12 a0 x1 x2 x3 x4 m0)) (hk46 : ∀ (a0 : Nat) (x1 : Int32) (x2 : Int32) (x3 : Int32) (x4 : Int32) (x5 : Int32) (x6 : Int32) (h0 : tg a0 = 9) (m0 : Mem), G K 46 [(0, .ref (kf K a0)), (1, .int x1), (2, .int x2), (3, .int x3), (4, .int x4), (5, .int x5), (6, .int x6)] [] m0 (k46 a0 x1 x2 x3 x4 x5 x6 m0)) (a0 : Nat) (x1 : Int32) (x2 : Int32) (x3 : Int32) (x4 : Int32) (x5 : Int32) (x6 : Int32) (h0 : tg a0 = 9) (m0 : Mem) : G K 46 [(0, .ref (kf K a0)), (1, .int x1), (2, .int x2), (3, .int x3), (4, .int x4), (5, .int x5), (6, .int x6)] [] m0 (X9_visits_L46B k12 k46 a0 x1 x2 x3 x4 x5 x6 m0) := by
  unfold X9_visits_L46B
  refine g_iload C dX9_visits_46 6 rfl ?_
  refine g_bipush C (6 : Int32) dX9_visits_48 rfl ?_
  refine g_icmp_ge C 172 dX9_visits_50 (by decide) (fun _ => ?_) (fun _ => ?_)
  · refine g_iinc (k := 4) C dX9_visits_172 rfl (w := (1 : Int32)) rfl (by decide) (fun v_ => [(4, .int v_), (0, .ref (kf K a0)), (1, .int x1), (2, .int x2), (3, .int x3), (5, .int x5), (6, .int x6)]) (fun _ => rfl) (fun y1 => ?_)
    refine g_goto C 12 dX9_visits_175 (by decide) ?_
    refine g_sub [1, 2, 3, 4, 0] rfl ?_
    exact hk12 a0 x1 x2 x3 y1 h0 m0
  · refine g_aload_n C dX9_visits_53 0 rfl rfl ?_
    refine g_iload_n C dX9_visits_54 1 rfl rfl ?_
    refine g_iconst C (0 : Int32) dX9_visits_55 rfl ?_
    refine g_callVi C cv_X9_of (ct_X9_of a0 x1 (0 : Int32) h0 m0) q_1069 h0 (by decide) rfl rfl (Nat.le_of_ble_eq_true rfl) dX9_visits_56 (fun r2 m3 => ?_)
    refine g_iload C dX9_visits_59 6 rfl ?_
    refine g_ishr C dX9_visits_61 ?_
    refine g_iconst C (1 : Int32) dX9_visits_62 rfl ?_
    refine g_iand C dX9_visits_63 ?_
    refine g_iconst C (1 : Int32) dX9_visits_64 rfl ?_
    refine g_icmp_ne C 81 dX9_visits_65 (by decide) (fun _ => ?_) (fun _ => ?_)
    · refine g_sub [0, 1, 2, 3, 4, 5, 6] rfl ?_
      exact s_X9_visits_J81 C Rr hk12 hk46 a0 x1 x2 x3 x4 x5 x6 h0 m3
    · refine g_iload_n C dX9_visits_68 2 rfl rfl ?_
      refine g_iload C dX9_visits_69 6 rfl ?_
      refine g_ishr C dX9_visits_71 ?_
      refine g_iconst C (1 : Int32) dX9_visits_72 rfl ?_
      refine g_iand C dX9_visits_73 ?_
      refine g_if_ne C 81 dX9_visits_74 (by decide) (fun _ => ?_) (fun _ => ?_)
      · refine g_sub [0, 1, 2, 3, 4, 5, 6] rfl ?_
        exact s_X9_visits_J81 C Rr hk12 hk46 a0 x1 x2 x3 x4 x5 x6 h0 m3
      · refine g_iconst C (1 : Int32) dX9_visits_77 rfl ?_
        refine g_goto C 82 dX9_visits_78 (by decide) ?_
        refine g_sub [0, 1, 2, 3, 4, 5, 6] rfl ?_
        exact s_X9_visits_J82 C Rr hk12 hk46 a0 x1 x2 x3 x4 x5 x6 (1 : Int32) h0 m3
theorem s_X9_visits_L46 {K : KT}  (C : Cx K cX9_visits RX9 9 5) (Rr : Rx K (some .int))  {k12 : Nat → Int32 → Int32 → Int32 → Int32 → Mem → Res} (hk12 : ∀ (a0 : Nat) (x1 : Int32) (x2 : Int32) (x3 : Int32) (x4 : Int32) (h0 : tg a0 = 9) (m0 : Mem), G K 12 [(0, .ref (kf K a0)), (1, .int x1), (2, .int x2), (3, .int x3), (4, .int x4)] [] m0 (k12 a0 x1 x2 x3 x4 m0)) : ∀ (n : Nat) (a0 : Nat) (x1 : Int32) (x2 : Int32) (x3 : Int32) (x4 : Int32) (x5 : Int32) (x6 : Int32) (h0 : tg a0 = 9) (m0 : Mem), G K 46 [(0, .ref (kf K a0)), (1, .int x1), (2, .int x2), (3, .int x3), (4, .int x4), (5, .int x5), (6, .int x6)] [] m0 (X9_visits_L46 k12 n a0 x1 x2 x3 x4 x5 x6 m0) := by
  intro n
  induction n with
  | zero => intros; exact g_none
  | succ n ih =>
    intro a0 x1 x2 x3 x4 x5 x6 h0 m0
    exact s_X9_visits_L46B C Rr hk12 ih a0 x1 x2 x3 x4 x5 x6 h0 m0
set_option maxHeartbeats 2000000 in
theorem s_X9_visits_L12B {K : KT}  (C : Cx K cX9_visits RX9 9 5) (Rr : Rx K (some .int))  {k12 : Nat → Int32 → Int32 → Int32 → Int32 → Mem → Res} (hk12 : ∀ (a0 : Nat) (x1 : Int32) (x2 : Int32) (x3 : Int32) (x4 : Int32) (h0 : tg a0 = 9) (m0 : Mem), G K 12 [(0, .ref (kf K a0)), (1, .int x1), (2, .int x2), (3, .int x3), (4, .int x4)] [] m0 (k12 a0 x1 x2 x3 x4 m0)) (a0 : Nat) (x1 : Int32) (x2 : Int32) (x3 : Int32) (x4 : Int32) (h0 : tg a0 = 9) (m0 : Mem) : G K 12 [(0, .ref (kf K a0)), (1, .int x1), (2, .int x2), (3, .int x3), (4, .int x4)] [] m0 (X9_visits_L12B k12 a0 x1 x2 x3 x4 m0) := by
  unfold X9_visits_L12B
  refine g_iload C dX9_visits_12 4 rfl ?_
  refine g_aload_n C dX9_visits_14 0 rfl rfl ?_
  refine g_iload_n C dX9_visits_15 1 rfl rfl ?_
  refine g_iconst C (1 : Int32) dX9_visits_16 rfl ?_
  refine g_callVi C cv_X9_of (ct_X9_of a0 x1 (1 : Int32) h0 m0) q_1069 h0 (by decide) rfl rfl (Nat.le_of_ble_eq_true rfl) dX9_visits_17 (fun r1 m2 => ?_)
  refine g_icmp_ge C 178 dX9_visits_20 (by decide) (fun _ => ?_) (fun _ => ?_)
  · refine g_sub [2] rfl ?_
    exact s_X9_visits_J178 C Rr x2 m2
  · refine g_aload_n C dX9_visits_23 0 rfl rfl ?_
    refine g_iload_n C dX9_visits_24 1 rfl rfl ?_
    refine g_iload C dX9_visits_25 4 rfl ?_
    refine g_callVi C cv_X9_shopOn (ct_X9_shopOn a0 x1 x4 h0 m2) q_1206 h0 (by decide) rfl rfl (Nat.le_of_ble_eq_true rfl) dX9_visits_27 (fun r3 m4 => ?_)
    refine g_iconst C (-1 : Int32) dX9_visits_30 rfl ?_
    refine g_icmp_eq C 178 dX9_visits_31 (by decide) (fun _ => ?_) (fun _ => ?_)
    · refine g_sub [2] rfl ?_
      exact s_X9_visits_J178 C Rr x2 m4
    · refine g_aload_n C dX9_visits_34 0 rfl rfl ?_
      refine g_iload_n C dX9_visits_35 1 rfl rfl ?_
      refine g_iload C dX9_visits_36 4 rfl ?_
      refine g_callVi C cv_X9_shopOn (ct_X9_shopOn a0 x1 x4 h0 m4) q_1206 h0 (by decide) rfl rfl (Nat.le_of_ble_eq_true rfl) dX9_visits_38 (fun r5 m6 => ?_)
      refine g_istore C dX9_visits_41 (by decide) rfl ?_
      refine g_iconst C (0 : Int32) dX9_visits_43 rfl ?_
      refine g_istore C dX9_visits_44 (by decide) rfl ?_
      refine g_sub [2, 3, 4, 5, 6, 1, 0] rfl ?_
      exact s_X9_visits_L46 C Rr hk12 FU a0 x1 x2 x3 x4 r5 (0 : Int32) h0 m6
theorem s_X9_visits_L12 {K : KT}  (C : Cx K cX9_visits RX9 9 5) (Rr : Rx K (some .int))    : ∀ (n : Nat) (a0 : Nat) (x1 : Int32) (x2 : Int32) (x3 : Int32) (x4 : Int32) (h0 : tg a0 = 9) (m0 : Mem), G K 12 [(0, .ref (kf K a0)), (1, .int x1), (2, .int x2), (3, .int x3), (4, .int x4)] [] m0 (X9_visits_L12 n a0 x1 x2 x3 x4 m0) := by
  intro n
  induction n with
  | zero => intros; exact g_none
  | succ n ih =>
    intro a0 x1 x2 x3 x4 h0 m0
    exact s_X9_visits_L12B C Rr  ih a0 x1 x2 x3 x4 h0 m0
set_option maxHeartbeats 2000000 in
theorem s_X9_visits {K : KT}  (C : Cx K cX9_visits RX9 9 5) (Rr : Rx K (some .int))  (a0 : Nat) (x1 : Int32) (h0 : tg a0 = 9) (m0 : Mem) : G K 0 [(0, .ref (kf K a0)), (1, .int x1)] [] m0 (f_X9_visits a0 x1 m0) := by
  unfold f_X9_visits
  refine g_iconst C (0 : Int32) dX9_visits_0 rfl ?_
  refine g_istore_n C dX9_visits_1 rfl (by decide) rfl ?_
  refine g_aload_n C dX9_visits_2 1 rfl rfl ?_
  refine g_iload_n C dX9_visits_3 2 rfl rfl ?_
  refine g_iconst C (3 : Int32) dX9_visits_4 rfl ?_
  refine g_callVi C cv_X9_of (ct_X9_of a0 x1 (3 : Int32) h0 m0) q_1069 h0 (by decide) rfl rfl (Nat.le_of_ble_eq_true rfl) dX9_visits_5 (fun r1 m2 => ?_)
  refine g_istore_n C dX9_visits_8 rfl (by decide) rfl ?_
  refine g_iconst C (0 : Int32) dX9_visits_9 rfl ?_
  refine g_istore C dX9_visits_10 (by decide) rfl ?_
  refine g_sub [3, 4, 2, 1, 0] rfl ?_
  exact s_X9_visits_L12 C Rr FU a0 x1 (0 : Int32) r1 (0 : Int32) h0 m2
theorem ct_X9_visits {Ω : OT} (a0 : Nat) (x1 : Int32) (h0 : tg a0 = 9) (m0 : Mem) : Ct Ω yX9_visits cX9_visits 9 (some .int) 5 [.ref (oF Ω a0), .int x1] m0 (f_X9_visits a0 x1 m0) := by
  refine Ct_of (by decide) (Nat.le_of_ble_eq_true rfl) ?_
  intro K hK C Rr
  subst hK
  exact s_X9_visits C Rr  a0 x1 h0 m0
def X9_visit_J21   (xs0 : Int32) (m0 : Mem) : Res :=
  some (xs0, m0)
def f_X9_visit  (a0 : Nat) (x1 : Int32) (m0 : Mem) : Res :=
  cal (f_X9_isCustomer a0 x1 m0) (fun r1 m2 =>
  (if r1 = 0 then
  cal (f_X9_error a0 (1 : Int32) m2) (fun r3 m4 =>
  X9_visit_J21 r3 m4)
  else
  cal (f_X9_visits a0 x1 m2) (fun r5 m6 =>
  X9_visit_J21 r5 m6)))
set_option maxHeartbeats 2000000 in
theorem s_X9_visit_J21 {K : KT}  (C : Cx K cX9_visit RX9 2 6) (Rr : Rx K (some .int))    (xs0 : Int32)  (m0 : Mem) : G K 21 [] [.int xs0] m0 (X9_visit_J21 xs0 m0) := by
  unfold X9_visit_J21
  exact g_iret C Rr dX9_visit_21
set_option maxHeartbeats 2000000 in
theorem s_X9_visit {K : KT}  (C : Cx K cX9_visit RX9 2 6) (Rr : Rx K (some .int))  (a0 : Nat) (x1 : Int32) (h0 : tg a0 = 9) (m0 : Mem) : G K 0 [(0, .ref (kf K a0)), (1, .int x1)] [] m0 (f_X9_visit a0 x1 m0) := by
  unfold f_X9_visit
  refine g_aload_n C dX9_visit_0 0 rfl rfl ?_
  refine g_iload_n C dX9_visit_1 1 rfl rfl ?_
  refine g_callVi C cv_X9_isCustomer (ct_X9_isCustomer a0 x1 h0 m0) q_1065 h0 (by decide) rfl rfl (Nat.le_of_ble_eq_true rfl) dX9_visit_2 (fun r1 m2 => ?_)
  refine g_if_eq C 16 dX9_visit_5 (by decide) (fun _ => ?_) (fun _ => ?_)
  · refine g_aload_n C dX9_visit_16 0 rfl rfl ?_
    refine g_iconst C (1 : Int32) dX9_visit_17 rfl ?_
    refine g_callVi C cv_X9_error (ct_X9_error a0 (1 : Int32) h0 m2) q_990 h0 (by decide) rfl rfl (Nat.le_of_ble_eq_true rfl) dX9_visit_18 (fun r3 m4 => ?_)
    refine g_sub [] rfl ?_
    exact s_X9_visit_J21 C Rr r3 m4
  · refine g_aload_n C dX9_visit_8 0 rfl rfl ?_
    refine g_iload_n C dX9_visit_9 1 rfl rfl ?_
    refine g_callVi C cv_X9_visits (ct_X9_visits a0 x1 h0 m2) q_1202 h0 (by decide) rfl rfl (Nat.le_of_ble_eq_true rfl) dX9_visit_10 (fun r5 m6 => ?_)
    refine g_goto C 21 dX9_visit_13 (by decide) ?_
    refine g_sub [] rfl ?_
    exact s_X9_visit_J21 C Rr r5 m6
theorem ct_X9_visit {Ω : OT} (a0 : Nat) (x1 : Int32) (h0 : tg a0 = 9) (m0 : Mem) : Ct Ω yX9_visit cX9_visit 2 (some .int) 6 [.ref (oF Ω a0), .int x1] m0 (f_X9_visit a0 x1 m0) := by
  refine Ct_of (by decide) (Nat.le_of_ble_eq_true rfl) ?_
  intro K hK C Rr
  subst hK
  exact s_X9_visit C Rr  a0 x1 h0 m0
def X9_bitsOf_L4B  (k4 : Int32 → Int32 → Mem → Res) (x1 : Int32) (x2 : Int32) (m0 : Mem) : Res :=
  (if x2 = 0 then
  some (x1, m0)
  else
  bnd (x1 + (1 : Int32)) (fun y1 =>
  bnd (x2 &&& (x2 - (1 : Int32))) (fun y2 =>
  k4 y1 y2 m0)))
def X9_bitsOf_L4   : Nat → Int32 → Int32 → Mem → Res
  | 0 => fun _ _ _ => none
  | n + 1 => X9_bitsOf_L4B (X9_bitsOf_L4 n)
def f_X9_bitsOf  (x0 : Int32) (m0 : Mem) : Res :=
  X9_bitsOf_L4 FU (0 : Int32) x0 m0
set_option maxHeartbeats 2000000 in
theorem s_X9_bitsOf_L4B {K : KT}  (C : Cx K cX9_bitsOf RX9 3 1) (Rr : Rx K (some .int))  {k4 : Int32 → Int32 → Mem → Res} (hk4 : ∀ (x1 : Int32) (x2 : Int32)  (m0 : Mem), G K 4 [(1, .int x1), (2, .int x2)] [] m0 (k4 x1 x2 m0)) (x1 : Int32) (x2 : Int32)  (m0 : Mem) : G K 4 [(1, .int x1), (2, .int x2)] [] m0 (X9_bitsOf_L4B k4 x1 x2 m0) := by
  unfold X9_bitsOf_L4B
  refine g_iload_n C dX9_bitsOf_4 1 rfl rfl ?_
  refine g_if_eq C 20 dX9_bitsOf_5 (by decide) (fun _ => ?_) (fun _ => ?_)
  · refine g_iload_n C dX9_bitsOf_20 0 rfl rfl ?_
    exact g_iret C Rr dX9_bitsOf_21
  · refine g_iinc (k := 0) C dX9_bitsOf_8 rfl (w := (1 : Int32)) rfl (by decide) (fun v_ => [(1, .int v_), (2, .int x2)]) (fun _ => rfl) (fun y1 => ?_)
    refine g_iload_n C dX9_bitsOf_11 1 rfl rfl ?_
    refine g_iload_n C dX9_bitsOf_12 1 rfl rfl ?_
    refine g_iconst C (1 : Int32) dX9_bitsOf_13 rfl ?_
    refine g_isub C dX9_bitsOf_14 ?_
    refine g_iand C dX9_bitsOf_15 ?_
    refine g_bnd (fun y2 => ?_)
    refine g_istore_n C dX9_bitsOf_16 rfl (by decide) rfl ?_
    refine g_goto C 4 dX9_bitsOf_17 (by decide) ?_
    refine g_sub [1, 0] rfl ?_
    exact hk4 y1 y2 m0
theorem s_X9_bitsOf_L4 {K : KT}  (C : Cx K cX9_bitsOf RX9 3 1) (Rr : Rx K (some .int))    : ∀ (n : Nat) (x1 : Int32) (x2 : Int32)  (m0 : Mem), G K 4 [(1, .int x1), (2, .int x2)] [] m0 (X9_bitsOf_L4 n x1 x2 m0) := by
  intro n
  induction n with
  | zero => intros; exact g_none
  | succ n ih =>
    intro x1 x2 m0
    exact s_X9_bitsOf_L4B C Rr  ih x1 x2 m0
set_option maxHeartbeats 2000000 in
theorem s_X9_bitsOf {K : KT}  (C : Cx K cX9_bitsOf RX9 3 1) (Rr : Rx K (some .int))  (x0 : Int32)  (m0 : Mem) : G K 0 [(0, .int x0)] [] m0 (f_X9_bitsOf x0 m0) := by
  unfold f_X9_bitsOf
  refine g_iconst C (0 : Int32) dX9_bitsOf_0 rfl ?_
  refine g_istore_n C dX9_bitsOf_1 rfl (by decide) rfl ?_
  refine g_iload_n C dX9_bitsOf_2 1 rfl rfl ?_
  refine g_istore_n C dX9_bitsOf_3 rfl (by decide) rfl ?_
  refine g_sub [1, 0] rfl ?_
  exact s_X9_bitsOf_L4 C Rr FU (0 : Int32) x0 m0
theorem ct_X9_bitsOf {Ω : OT} (x0 : Int32)  (m0 : Mem) : Ct Ω yX9_bitsOf cX9_bitsOf 3 (some .int) 1 [.int x0] m0 (f_X9_bitsOf x0 m0) := by
  refine Ct_of (by decide) (Nat.le_of_ble_eq_true rfl) ?_
  intro K hK C Rr
  subst hK
  exact s_X9_bitsOf C Rr  x0 m0
def f_X9_draw  (a0 : Nat) (m0 : Mem) : Res :=
  gd (inb (8 : Int32) 516) (
  gd (inb (8 : Int32) 516) (bnd (mset m0 (a0 + 1) (8 : Int32).toNatClampNeg (((m0 (a0 + 1) (8 : Int32).toNatClampNeg) * (1103515245 : Int32)) + (12345 : Int32))) (fun m1 =>
  gd (inb (8 : Int32) 516) (
  some (iur (m1 (a0 + 1) (8 : Int32).toNatClampNeg) (8 : Int32), m1)))))
set_option maxHeartbeats 2000000 in
theorem s_X9_draw {K : KT}  (C : Cx K cX9_draw RX9 1 1) (Rr : Rx K (some .int))  (a0 : Nat) (h0 : tg a0 = 9) (m0 : Mem) : G K 0 [(0, .ref (kf K a0))] [] m0 (f_X9_draw a0 m0) := by
  unfold f_X9_draw
  refine g_aload_n C dX9_draw_0 0 rfl rfl ?_
  refine g_getr C 0 1 Fx9 h0 (by decide) rfl rfl q_919 dX9_draw_1 ?_
  refine g_bipush C (8 : Int32) dX9_draw_4 rfl ?_
  refine g_aload_n C dX9_draw_6 0 rfl rfl ?_
  refine g_getr C 0 1 Fx9 h0 (by decide) rfl rfl q_919 dX9_draw_7 ?_
  refine g_bipush C (8 : Int32) dX9_draw_10 rfl ?_
  refine g_iald (n := 516) C (cl_9_0 h0) dX9_draw_12 (fun _ => ?_)
  refine g_ldc (v := (1103515245 : Int32)) C q_1226 dX9_draw_13 ?_
  refine g_imul C dX9_draw_15 ?_
  refine g_sipush C (12345 : Int32) dX9_draw_16 rfl ?_
  refine g_iadd C dX9_draw_19 ?_
  refine g_iast (n := 516) C (cl_9_0 h0) dX9_draw_20 (fun m1 => ?_)
  refine g_aload_n C dX9_draw_21 0 rfl rfl ?_
  refine g_getr C 0 1 Fx9 h0 (by decide) rfl rfl q_919 dX9_draw_22 ?_
  refine g_bipush C (8 : Int32) dX9_draw_25 rfl ?_
  refine g_iald (n := 516) C (cl_9_0 h0) dX9_draw_27 (fun _ => ?_)
  refine g_bipush C (8 : Int32) dX9_draw_28 rfl ?_
  refine g_iushr C dX9_draw_30 ?_
  exact g_iret C Rr dX9_draw_31
theorem ct_X9_draw {Ω : OT} (a0 : Nat) (h0 : tg a0 = 9) (m0 : Mem) : Ct Ω yX9_draw cX9_draw 1 (some .int) 1 [.ref (oF Ω a0)] m0 (f_X9_draw a0 m0) := by
  refine Ct_of (by decide) (Nat.le_of_ble_eq_true rfl) ?_
  intro K hK C Rr
  subst hK
  exact s_X9_draw C Rr  a0 h0 m0
def X9_day_J56  (k8 : Nat → Int32 → Int32 → Int32 → Mem → Res) (a0 : Nat) (x1 : Int32) (x3 : Int32) (xs0 : Int32) (xs1 : Int32) (m0 : Mem) : Res :=
  bnd (xs0 + xs1) (fun y1 =>
  bnd (x3 + (1 : Int32)) (fun y2 =>
  k8 a0 x1 y1 y2 m0))
def X9_day_J36  (k8 : Nat → Int32 → Int32 → Int32 → Mem → Res) (a0 : Nat) (x1 : Int32) (x2 : Int32) (x3 : Int32) (xs0 : Int32) (m0 : Mem) : Res :=
  (if xs0 = 0 then
  cal (f_X9_visits a0 x3 m0) (fun r1 m2 =>
  cal (f_X9_bitsOf r1 m2) (fun r3 m4 =>
  X9_day_J56 k8 a0 x1 x3 x2 r3 m4))
  else
  X9_day_J56 k8 a0 x1 x3 x2 (0 : Int32) m0)
def X9_day_J35  (k8 : Nat → Int32 → Int32 → Int32 → Mem → Res) (a0 : Nat) (x1 : Int32) (x2 : Int32) (x3 : Int32) (m0 : Mem) : Res :=
  X9_day_J36 k8 a0 x1 x2 x3 (0 : Int32) m0
def X9_day_L8B  (k8 : Nat → Int32 → Int32 → Int32 → Mem → Res) (a0 : Nat) (x1 : Int32) (x2 : Int32) (x3 : Int32) (m0 : Mem) : Res :=
  gd (inb (1 : Int32) 516) (
  (if (m0 (a0 + 1) (1 : Int32).toNatClampNeg) ≤ x3 then
  gd (inb (3 : Int32) 516) (bnd (mset m0 (a0 + 1) (3 : Int32).toNatClampNeg x2) (fun m1 =>
  gd (inb (2 : Int32) 516) (
  gd (inb (2 : Int32) 516) (bnd (mset m1 (a0 + 1) (2 : Int32).toNatClampNeg ((m1 (a0 + 1) (2 : Int32).toNatClampNeg) + (1 : Int32))) (fun m2 =>
  some (0, m2))))))
  else
  (if x1 = 0 then
  X9_day_J35 k8 a0 x1 x2 x3 m0
  else
  cal (f_X9_draw a0 m0) (fun r3 m4 =>
  gd (!((4 : Int32) == 0)) (
  (if (irm r3 (4 : Int32)) = 0 then
  X9_day_J36 k8 a0 x1 x2 x3 (1 : Int32) m4
  else
  X9_day_J35 k8 a0 x1 x2 x3 m4))))))
def X9_day_L8   : Nat → Nat → Int32 → Int32 → Int32 → Mem → Res
  | 0 => fun _ _ _ _ _ => none
  | n + 1 => X9_day_L8B (X9_day_L8 n)
def f_X9_day  (a0 : Nat) (x1 : Int32) (m0 : Mem) : Res :=
  cal (f_X9_dawns a0 m0) (fun r1 m2 =>
  X9_day_L8 FU a0 x1 (0 : Int32) (0 : Int32) m2)
set_option maxHeartbeats 2000000 in
theorem s_X9_day_J56 {K : KT}  (C : Cx K cX9_day RX9 5 8) (Rr : Rx K none)  {k8 : Nat → Int32 → Int32 → Int32 → Mem → Res} (hk8 : ∀ (a0 : Nat) (x1 : Int32) (x2 : Int32) (x3 : Int32) (h0 : tg a0 = 9) (m0 : Mem), G K 8 [(0, .ref (kf K a0)), (1, .int x1), (2, .int x2), (3, .int x3)] [] m0 (k8 a0 x1 x2 x3 m0)) (a0 : Nat) (x1 : Int32) (x3 : Int32) (xs0 : Int32) (xs1 : Int32) (h0 : tg a0 = 9) (m0 : Mem) : G K 56 [(0, .ref (kf K a0)), (1, .int x1), (3, .int x3)] [.int xs1, .int xs0] m0 (X9_day_J56 k8 a0 x1 x3 xs0 xs1 m0) := by
  unfold X9_day_J56
  refine g_iadd C dX9_day_56 ?_
  refine g_bnd (fun y1 => ?_)
  refine g_istore_n C dX9_day_57 rfl (by decide) rfl ?_
  refine g_iinc (k := 3) C dX9_day_58 rfl (w := (1 : Int32)) rfl (by decide) (fun v_ => [(3, .int v_), (2, .int y1), (0, .ref (kf K a0)), (1, .int x1)]) (fun _ => rfl) (fun y2 => ?_)
  refine g_goto C 8 dX9_day_61 (by decide) ?_
  refine g_sub [2, 3, 1, 0] rfl ?_
  exact hk8 a0 x1 y1 y2 h0 m0
set_option maxHeartbeats 2000000 in
theorem s_X9_day_J36 {K : KT}  (C : Cx K cX9_day RX9 5 8) (Rr : Rx K none)  {k8 : Nat → Int32 → Int32 → Int32 → Mem → Res} (hk8 : ∀ (a0 : Nat) (x1 : Int32) (x2 : Int32) (x3 : Int32) (h0 : tg a0 = 9) (m0 : Mem), G K 8 [(0, .ref (kf K a0)), (1, .int x1), (2, .int x2), (3, .int x3)] [] m0 (k8 a0 x1 x2 x3 m0)) (a0 : Nat) (x1 : Int32) (x2 : Int32) (x3 : Int32) (xs0 : Int32) (h0 : tg a0 = 9) (m0 : Mem) : G K 36 [(0, .ref (kf K a0)), (1, .int x1), (2, .int x2), (3, .int x3)] [.int xs0] m0 (X9_day_J36 k8 a0 x1 x2 x3 xs0 m0) := by
  unfold X9_day_J36
  refine g_istore C dX9_day_36 (by decide) rfl ?_
  refine g_iload_n C dX9_day_38 3 rfl rfl ?_
  refine g_iload C dX9_day_39 0 rfl ?_
  refine g_if_eq C 48 dX9_day_41 (by decide) (fun _ => ?_) (fun _ => ?_)
  · refine g_aload_n C dX9_day_48 1 rfl rfl ?_
    refine g_iload_n C dX9_day_49 4 rfl rfl ?_
    refine g_callVi C cv_X9_visits (ct_X9_visits a0 x3 h0 m0) q_1202 h0 (by decide) rfl rfl (Nat.le_of_ble_eq_true rfl) dX9_day_50 (fun r1 m2 => ?_)
    refine g_callSi C cv_X9_bitsOf q_1228 (ct_X9_bitsOf r1  m2) q_1227 (by decide) rfl rfl (Nat.le_of_ble_eq_true rfl) dX9_day_53 (fun r3 m4 => ?_)
    refine g_sub [1, 2, 4] rfl ?_
    exact s_X9_day_J56 C Rr hk8 a0 x1 x3 x2 r3 h0 m4
  · refine g_iconst C (0 : Int32) dX9_day_44 rfl ?_
    refine g_goto C 56 dX9_day_45 (by decide) ?_
    refine g_sub [1, 2, 4] rfl ?_
    exact s_X9_day_J56 C Rr hk8 a0 x1 x3 x2 (0 : Int32) h0 m0
set_option maxHeartbeats 2000000 in
theorem s_X9_day_J35 {K : KT}  (C : Cx K cX9_day RX9 5 8) (Rr : Rx K none)  {k8 : Nat → Int32 → Int32 → Int32 → Mem → Res} (hk8 : ∀ (a0 : Nat) (x1 : Int32) (x2 : Int32) (x3 : Int32) (h0 : tg a0 = 9) (m0 : Mem), G K 8 [(0, .ref (kf K a0)), (1, .int x1), (2, .int x2), (3, .int x3)] [] m0 (k8 a0 x1 x2 x3 m0)) (a0 : Nat) (x1 : Int32) (x2 : Int32) (x3 : Int32) (h0 : tg a0 = 9) (m0 : Mem) : G K 35 [(0, .ref (kf K a0)), (1, .int x1), (2, .int x2), (3, .int x3)] [] m0 (X9_day_J35 k8 a0 x1 x2 x3 m0) := by
  unfold X9_day_J35
  refine g_iconst C (0 : Int32) dX9_day_35 rfl ?_
  refine g_sub [0, 1, 2, 3] rfl ?_
  exact s_X9_day_J36 C Rr hk8 a0 x1 x2 x3 (0 : Int32) h0 m0
set_option maxHeartbeats 2000000 in
theorem s_X9_day_L8B {K : KT}  (C : Cx K cX9_day RX9 5 8) (Rr : Rx K none)  {k8 : Nat → Int32 → Int32 → Int32 → Mem → Res} (hk8 : ∀ (a0 : Nat) (x1 : Int32) (x2 : Int32) (x3 : Int32) (h0 : tg a0 = 9) (m0 : Mem), G K 8 [(0, .ref (kf K a0)), (1, .int x1), (2, .int x2), (3, .int x3)] [] m0 (k8 a0 x1 x2 x3 m0)) (a0 : Nat) (x1 : Int32) (x2 : Int32) (x3 : Int32) (h0 : tg a0 = 9) (m0 : Mem) : G K 8 [(0, .ref (kf K a0)), (1, .int x1), (2, .int x2), (3, .int x3)] [] m0 (X9_day_L8B k8 a0 x1 x2 x3 m0) := by
  unfold X9_day_L8B
  refine g_iload_n C dX9_day_8 3 rfl rfl ?_
  refine g_aload_n C dX9_day_9 0 rfl rfl ?_
  refine g_getr C 0 1 Fx9 h0 (by decide) rfl rfl q_919 dX9_day_10 ?_
  refine g_iconst C (1 : Int32) dX9_day_13 rfl ?_
  refine g_iald (n := 516) C (cl_9_0 h0) dX9_day_14 (fun _ => ?_)
  refine g_icmp_ge C 64 dX9_day_15 (by decide) (fun _ => ?_) (fun _ => ?_)
  · refine g_aload_n C dX9_day_64 0 rfl rfl ?_
    refine g_getr C 0 1 Fx9 h0 (by decide) rfl rfl q_919 dX9_day_65 ?_
    refine g_iconst C (3 : Int32) dX9_day_68 rfl ?_
    refine g_iload_n C dX9_day_69 2 rfl rfl ?_
    refine g_iast (n := 516) C (cl_9_0 h0) dX9_day_70 (fun m1 => ?_)
    refine g_aload_n C dX9_day_71 0 rfl rfl ?_
    refine g_getr C 0 1 Fx9 h0 (by decide) rfl rfl q_919 dX9_day_72 ?_
    refine g_iconst C (2 : Int32) dX9_day_75 rfl ?_
    refine g_dup2 C dX9_day_76 rfl rfl ?_
    refine g_iald (n := 516) C (cl_9_0 h0) dX9_day_77 (fun _ => ?_)
    refine g_iconst C (1 : Int32) dX9_day_78 rfl ?_
    refine g_iadd C dX9_day_79 ?_
    refine g_iast (n := 516) C (cl_9_0 h0) dX9_day_80 (fun m2 => ?_)
    exact g_vret C Rr dX9_day_81
  · refine g_iload_n C dX9_day_18 1 rfl rfl ?_
    refine g_if_eq C 35 dX9_day_19 (by decide) (fun _ => ?_) (fun _ => ?_)
    · refine g_sub [0, 1, 2, 3] rfl ?_
      exact s_X9_day_J35 C Rr hk8 a0 x1 x2 x3 h0 m0
    · refine g_aload_n C dX9_day_22 0 rfl rfl ?_
      refine g_callVi C cv_X9_draw (ct_X9_draw a0 h0 m0) q_1222 h0 (by decide) rfl rfl (Nat.le_of_ble_eq_true rfl) dX9_day_23 (fun r3 m4 => ?_)
      refine g_iconst C (4 : Int32) dX9_day_26 rfl ?_
      refine g_irem C dX9_day_27 (fun _ => ?_)
      refine g_if_ne C 35 dX9_day_28 (by decide) (fun _ => ?_) (fun _ => ?_)
      · refine g_sub [0, 1, 2, 3] rfl ?_
        exact s_X9_day_J35 C Rr hk8 a0 x1 x2 x3 h0 m4
      · refine g_iconst C (1 : Int32) dX9_day_31 rfl ?_
        refine g_goto C 36 dX9_day_32 (by decide) ?_
        refine g_sub [0, 1, 2, 3] rfl ?_
        exact s_X9_day_J36 C Rr hk8 a0 x1 x2 x3 (1 : Int32) h0 m4
theorem s_X9_day_L8 {K : KT}  (C : Cx K cX9_day RX9 5 8) (Rr : Rx K none)    : ∀ (n : Nat) (a0 : Nat) (x1 : Int32) (x2 : Int32) (x3 : Int32) (h0 : tg a0 = 9) (m0 : Mem), G K 8 [(0, .ref (kf K a0)), (1, .int x1), (2, .int x2), (3, .int x3)] [] m0 (X9_day_L8 n a0 x1 x2 x3 m0) := by
  intro n
  induction n with
  | zero => intros; exact g_none
  | succ n ih =>
    intro a0 x1 x2 x3 h0 m0
    exact s_X9_day_L8B C Rr  ih a0 x1 x2 x3 h0 m0
set_option maxHeartbeats 2000000 in
theorem s_X9_day {K : KT}  (C : Cx K cX9_day RX9 5 8) (Rr : Rx K none)  (a0 : Nat) (x1 : Int32) (h0 : tg a0 = 9) (m0 : Mem) : G K 0 [(0, .ref (kf K a0)), (1, .int x1)] [] m0 (f_X9_day a0 x1 m0) := by
  unfold f_X9_day
  refine g_aload_n C dX9_day_0 0 rfl rfl ?_
  refine g_callVv C cv_X9_dawns (ct_X9_dawns a0 h0 m0) q_1172 h0 (by decide) rfl rfl (Nat.le_of_ble_eq_true rfl) dX9_day_1 (fun r1 m2 => ?_)
  refine g_iconst C (0 : Int32) dX9_day_4 rfl ?_
  refine g_istore_n C dX9_day_5 rfl (by decide) rfl ?_
  refine g_iconst C (0 : Int32) dX9_day_6 rfl ?_
  refine g_istore_n C dX9_day_7 rfl (by decide) rfl ?_
  refine g_sub [2, 3, 1, 0] rfl ?_
  exact s_X9_day_L8 C Rr FU a0 x1 (0 : Int32) (0 : Int32) h0 m2
theorem ct_X9_day {Ω : OT} (a0 : Nat) (x1 : Int32) (h0 : tg a0 = 9) (m0 : Mem) : Ct Ω yX9_day cX9_day 5 none 8 [.ref (oF Ω a0), .int x1] m0 (f_X9_day a0 x1 m0) := by
  refine Ct_of (by decide) (Nat.le_of_ble_eq_true rfl) ?_
  intro K hK C Rr
  subst hK
  exact s_X9_day C Rr  a0 x1 h0 m0
def X9_go_L2B  (k2 : Nat → Int32 → Int32 → Mem → Res) (a0 : Nat) (x1 : Int32) (x2 : Int32) (m0 : Mem) : Res :=
  (if x1 ≤ x2 then
  some (0, m0)
  else
  cal (f_X9_day a0 (0 : Int32) m0) (fun r1 m2 =>
  bnd (x2 + (1 : Int32)) (fun y3 =>
  k2 a0 x1 y3 m2)))
def X9_go_L2   : Nat → Nat → Int32 → Int32 → Mem → Res
  | 0 => fun _ _ _ _ => none
  | n + 1 => X9_go_L2B (X9_go_L2 n)
def f_X9_go  (a0 : Nat) (x1 : Int32) (m0 : Mem) : Res :=
  X9_go_L2 FU a0 x1 (0 : Int32) m0
set_option maxHeartbeats 2000000 in
theorem s_X9_go_L2B {K : KT}  (C : Cx K cX9_go RX9 3 9) (Rr : Rx K none)  {k2 : Nat → Int32 → Int32 → Mem → Res} (hk2 : ∀ (a0 : Nat) (x1 : Int32) (x2 : Int32) (h0 : tg a0 = 9) (m0 : Mem), G K 2 [(0, .ref (kf K a0)), (1, .int x1), (2, .int x2)] [] m0 (k2 a0 x1 x2 m0)) (a0 : Nat) (x1 : Int32) (x2 : Int32) (h0 : tg a0 = 9) (m0 : Mem) : G K 2 [(0, .ref (kf K a0)), (1, .int x1), (2, .int x2)] [] m0 (X9_go_L2B k2 a0 x1 x2 m0) := by
  unfold X9_go_L2B
  refine g_iload_n C dX9_go_2 2 rfl rfl ?_
  refine g_iload_n C dX9_go_3 1 rfl rfl ?_
  refine g_icmp_ge C 18 dX9_go_4 (by decide) (fun _ => ?_) (fun _ => ?_)
  · exact g_vret C Rr dX9_go_18
  · refine g_aload_n C dX9_go_7 0 rfl rfl ?_
    refine g_iconst C (0 : Int32) dX9_go_8 rfl ?_
    refine g_callVv C cv_X9_day (ct_X9_day a0 (0 : Int32) h0 m0) q_1218 h0 (by decide) rfl rfl (Nat.le_of_ble_eq_true rfl) dX9_go_9 (fun r1 m2 => ?_)
    refine g_iinc (k := 2) C dX9_go_12 rfl (w := (1 : Int32)) rfl (by decide) (fun v_ => [(2, .int v_), (0, .ref (kf K a0)), (1, .int x1)]) (fun _ => rfl) (fun y3 => ?_)
    refine g_goto C 2 dX9_go_15 (by decide) ?_
    refine g_sub [1, 2, 0] rfl ?_
    exact hk2 a0 x1 y3 h0 m2
theorem s_X9_go_L2 {K : KT}  (C : Cx K cX9_go RX9 3 9) (Rr : Rx K none)    : ∀ (n : Nat) (a0 : Nat) (x1 : Int32) (x2 : Int32) (h0 : tg a0 = 9) (m0 : Mem), G K 2 [(0, .ref (kf K a0)), (1, .int x1), (2, .int x2)] [] m0 (X9_go_L2 n a0 x1 x2 m0) := by
  intro n
  induction n with
  | zero => intros; exact g_none
  | succ n ih =>
    intro a0 x1 x2 h0 m0
    exact s_X9_go_L2B C Rr  ih a0 x1 x2 h0 m0
set_option maxHeartbeats 2000000 in
theorem s_X9_go {K : KT}  (C : Cx K cX9_go RX9 3 9) (Rr : Rx K none)  (a0 : Nat) (x1 : Int32) (h0 : tg a0 = 9) (m0 : Mem) : G K 0 [(0, .ref (kf K a0)), (1, .int x1)] [] m0 (f_X9_go a0 x1 m0) := by
  unfold f_X9_go
  refine g_iconst C (0 : Int32) dX9_go_0 rfl ?_
  refine g_istore_n C dX9_go_1 rfl (by decide) rfl ?_
  refine g_sub [1, 2, 0] rfl ?_
  exact s_X9_go_L2 C Rr FU a0 x1 (0 : Int32) h0 m0
theorem ct_X9_go {Ω : OT} (a0 : Nat) (x1 : Int32) (h0 : tg a0 = 9) (m0 : Mem) : Ct Ω yX9_go cX9_go 3 none 9 [.ref (oF Ω a0), .int x1] m0 (f_X9_go a0 x1 m0) := by
  refine Ct_of (by decide) (Nat.le_of_ble_eq_true rfl) ?_
  intro K hK C Rr
  subst hK
  exact s_X9_go C Rr  a0 x1 h0 m0
def f_X9_days  (a0 : Nat) (x1 : Int32) (m0 : Mem) : Res :=
  cal (f_X9_in x1 (1 : Int32) (60 : Int32) m0) (fun r1 m2 =>
  (if r1 = 0 then
  cal (f_X9_error a0 (1 : Int32) m2) (fun r7 m8 =>
  some (r7, m8))
  else
  gd (inb (2 : Int32) 516) (
  (if ((m2 (a0 + 1) (2 : Int32).toNatClampNeg) + x1) ≤ (9999 : Int32) then
  cal (f_X9_go a0 x1 m2) (fun r3 m4 =>
  gd (inb (3 : Int32) 516) (
  some (m4 (a0 + 1) (3 : Int32).toNatClampNeg, m4)))
  else
  cal (f_X9_error a0 (3 : Int32) m2) (fun r5 m6 =>
  some (r5, m6))))))
set_option maxHeartbeats 2000000 in
theorem s_X9_days {K : KT}  (C : Cx K cX9_days RX9 2 10) (Rr : Rx K (some .int))  (a0 : Nat) (x1 : Int32) (h0 : tg a0 = 9) (m0 : Mem) : G K 0 [(0, .ref (kf K a0)), (1, .int x1)] [] m0 (f_X9_days a0 x1 m0) := by
  unfold f_X9_days
  refine g_iload_n C dX9_days_0 1 rfl rfl ?_
  refine g_iconst C (1 : Int32) dX9_days_1 rfl ?_
  refine g_bipush C (60 : Int32) dX9_days_2 rfl ?_
  refine g_callSi C cv_X9_in q_988 (ct_X9_in x1 (1 : Int32) (60 : Int32)  m0) q_987 (by decide) rfl rfl (Nat.le_of_ble_eq_true rfl) dX9_days_4 (fun r1 m2 => ?_)
  refine g_if_ne C 16 dX9_days_7 (by decide) (fun _ => ?_) (fun _ => ?_)
  · refine g_aload_n C dX9_days_16 0 rfl rfl ?_
    refine g_getr C 0 1 Fx9 h0 (by decide) rfl rfl q_919 dX9_days_17 ?_
    refine g_iconst C (2 : Int32) dX9_days_20 rfl ?_
    refine g_iald (n := 516) C (cl_9_0 h0) dX9_days_21 (fun _ => ?_)
    refine g_iload_n C dX9_days_22 1 rfl rfl ?_
    refine g_iadd C dX9_days_23 ?_
    refine g_sipush C (9999 : Int32) dX9_days_24 rfl ?_
    refine g_icmp_le C 36 dX9_days_27 (by decide) (fun _ => ?_) (fun _ => ?_)
    · refine g_aload_n C dX9_days_36 0 rfl rfl ?_
      refine g_iload_n C dX9_days_37 1 rfl rfl ?_
      refine g_callVv C cv_X9_go (ct_X9_go a0 x1 h0 m2) q_1214 h0 (by decide) rfl rfl (Nat.le_of_ble_eq_true rfl) dX9_days_38 (fun r3 m4 => ?_)
      refine g_aload_n C dX9_days_41 0 rfl rfl ?_
      refine g_getr C 0 1 Fx9 h0 (by decide) rfl rfl q_919 dX9_days_42 ?_
      refine g_iconst C (3 : Int32) dX9_days_45 rfl ?_
      refine g_iald (n := 516) C (cl_9_0 h0) dX9_days_46 (fun _ => ?_)
      exact g_iret C Rr dX9_days_47
    · refine g_aload_n C dX9_days_30 0 rfl rfl ?_
      refine g_iconst C (3 : Int32) dX9_days_31 rfl ?_
      refine g_callVi C cv_X9_error (ct_X9_error a0 (3 : Int32) h0 m2) q_990 h0 (by decide) rfl rfl (Nat.le_of_ble_eq_true rfl) dX9_days_32 (fun r5 m6 => ?_)
      exact g_iret C Rr dX9_days_35
  · refine g_aload_n C dX9_days_10 0 rfl rfl ?_
    refine g_iconst C (1 : Int32) dX9_days_11 rfl ?_
    refine g_callVi C cv_X9_error (ct_X9_error a0 (1 : Int32) h0 m2) q_990 h0 (by decide) rfl rfl (Nat.le_of_ble_eq_true rfl) dX9_days_12 (fun r7 m8 => ?_)
    exact g_iret C Rr dX9_days_15
theorem ct_X9_days {Ω : OT} (a0 : Nat) (x1 : Int32) (h0 : tg a0 = 9) (m0 : Mem) : Ct Ω yX9_days cX9_days 2 (some .int) 10 [.ref (oF Ω a0), .int x1] m0 (f_X9_days a0 x1 m0) := by
  refine Ct_of (by decide) (Nat.le_of_ble_eq_true rfl) ?_
  intro K hK C Rr
  subst hK
  exact s_X9_days C Rr  a0 x1 h0 m0
def X9_loose_L38B  (k38 : Nat → Int32 → Int32 → Mem → Res) (a0 : Nat) (x1 : Int32) (x2 : Int32) (m0 : Mem) : Res :=
  (if x1 ≤ x2 then
  gd (inb (3 : Int32) 516) (
  some (m0 (a0 + 1) (3 : Int32).toNatClampNeg, m0))
  else
  cal (f_X9_day a0 (1 : Int32) m0) (fun r1 m2 =>
  bnd (x2 + (1 : Int32)) (fun y3 =>
  k38 a0 x1 y3 m2)))
def X9_loose_L38   : Nat → Nat → Int32 → Int32 → Mem → Res
  | 0 => fun _ _ _ _ => none
  | n + 1 => X9_loose_L38B (X9_loose_L38 n)
def f_X9_loose  (a0 : Nat) (x1 : Int32) (m0 : Mem) : Res :=
  cal (f_X9_in x1 (1 : Int32) (60 : Int32) m0) (fun r1 m2 =>
  (if r1 = 0 then
  cal (f_X9_error a0 (1 : Int32) m2) (fun r5 m6 =>
  some (r5, m6))
  else
  gd (inb (2 : Int32) 516) (
  (if ((m2 (a0 + 1) (2 : Int32).toNatClampNeg) + x1) ≤ (9999 : Int32) then
  X9_loose_L38 FU a0 x1 (0 : Int32) m2
  else
  cal (f_X9_error a0 (3 : Int32) m2) (fun r3 m4 =>
  some (r3, m4))))))
set_option maxHeartbeats 2000000 in
theorem s_X9_loose_L38B {K : KT}  (C : Cx K cX9_loose RX9 3 9) (Rr : Rx K (some .int))  {k38 : Nat → Int32 → Int32 → Mem → Res} (hk38 : ∀ (a0 : Nat) (x1 : Int32) (x2 : Int32) (h0 : tg a0 = 9) (m0 : Mem), G K 38 [(0, .ref (kf K a0)), (1, .int x1), (2, .int x2)] [] m0 (k38 a0 x1 x2 m0)) (a0 : Nat) (x1 : Int32) (x2 : Int32) (h0 : tg a0 = 9) (m0 : Mem) : G K 38 [(0, .ref (kf K a0)), (1, .int x1), (2, .int x2)] [] m0 (X9_loose_L38B k38 a0 x1 x2 m0) := by
  unfold X9_loose_L38B
  refine g_iload_n C dX9_loose_38 2 rfl rfl ?_
  refine g_iload_n C dX9_loose_39 1 rfl rfl ?_
  refine g_icmp_ge C 54 dX9_loose_40 (by decide) (fun _ => ?_) (fun _ => ?_)
  · refine g_aload_n C dX9_loose_54 0 rfl rfl ?_
    refine g_getr C 0 1 Fx9 h0 (by decide) rfl rfl q_919 dX9_loose_55 ?_
    refine g_iconst C (3 : Int32) dX9_loose_58 rfl ?_
    refine g_iald (n := 516) C (cl_9_0 h0) dX9_loose_59 (fun _ => ?_)
    exact g_iret C Rr dX9_loose_60
  · refine g_aload_n C dX9_loose_43 0 rfl rfl ?_
    refine g_iconst C (1 : Int32) dX9_loose_44 rfl ?_
    refine g_callVv C cv_X9_day (ct_X9_day a0 (1 : Int32) h0 m0) q_1218 h0 (by decide) rfl rfl (Nat.le_of_ble_eq_true rfl) dX9_loose_45 (fun r1 m2 => ?_)
    refine g_iinc (k := 2) C dX9_loose_48 rfl (w := (1 : Int32)) rfl (by decide) (fun v_ => [(2, .int v_), (0, .ref (kf K a0)), (1, .int x1)]) (fun _ => rfl) (fun y3 => ?_)
    refine g_goto C 38 dX9_loose_51 (by decide) ?_
    refine g_sub [1, 2, 0] rfl ?_
    exact hk38 a0 x1 y3 h0 m2
theorem s_X9_loose_L38 {K : KT}  (C : Cx K cX9_loose RX9 3 9) (Rr : Rx K (some .int))    : ∀ (n : Nat) (a0 : Nat) (x1 : Int32) (x2 : Int32) (h0 : tg a0 = 9) (m0 : Mem), G K 38 [(0, .ref (kf K a0)), (1, .int x1), (2, .int x2)] [] m0 (X9_loose_L38 n a0 x1 x2 m0) := by
  intro n
  induction n with
  | zero => intros; exact g_none
  | succ n ih =>
    intro a0 x1 x2 h0 m0
    exact s_X9_loose_L38B C Rr  ih a0 x1 x2 h0 m0
set_option maxHeartbeats 2000000 in
theorem s_X9_loose {K : KT}  (C : Cx K cX9_loose RX9 3 9) (Rr : Rx K (some .int))  (a0 : Nat) (x1 : Int32) (h0 : tg a0 = 9) (m0 : Mem) : G K 0 [(0, .ref (kf K a0)), (1, .int x1)] [] m0 (f_X9_loose a0 x1 m0) := by
  unfold f_X9_loose
  refine g_iload_n C dX9_loose_0 1 rfl rfl ?_
  refine g_iconst C (1 : Int32) dX9_loose_1 rfl ?_
  refine g_bipush C (60 : Int32) dX9_loose_2 rfl ?_
  refine g_callSi C cv_X9_in q_988 (ct_X9_in x1 (1 : Int32) (60 : Int32)  m0) q_987 (by decide) rfl rfl (Nat.le_of_ble_eq_true rfl) dX9_loose_4 (fun r1 m2 => ?_)
  refine g_if_ne C 16 dX9_loose_7 (by decide) (fun _ => ?_) (fun _ => ?_)
  · refine g_aload_n C dX9_loose_16 0 rfl rfl ?_
    refine g_getr C 0 1 Fx9 h0 (by decide) rfl rfl q_919 dX9_loose_17 ?_
    refine g_iconst C (2 : Int32) dX9_loose_20 rfl ?_
    refine g_iald (n := 516) C (cl_9_0 h0) dX9_loose_21 (fun _ => ?_)
    refine g_iload_n C dX9_loose_22 1 rfl rfl ?_
    refine g_iadd C dX9_loose_23 ?_
    refine g_sipush C (9999 : Int32) dX9_loose_24 rfl ?_
    refine g_icmp_le C 36 dX9_loose_27 (by decide) (fun _ => ?_) (fun _ => ?_)
    · refine g_iconst C (0 : Int32) dX9_loose_36 rfl ?_
      refine g_istore_n C dX9_loose_37 rfl (by decide) rfl ?_
      refine g_sub [1, 2, 0] rfl ?_
      exact s_X9_loose_L38 C Rr FU a0 x1 (0 : Int32) h0 m2
    · refine g_aload_n C dX9_loose_30 0 rfl rfl ?_
      refine g_iconst C (3 : Int32) dX9_loose_31 rfl ?_
      refine g_callVi C cv_X9_error (ct_X9_error a0 (3 : Int32) h0 m2) q_990 h0 (by decide) rfl rfl (Nat.le_of_ble_eq_true rfl) dX9_loose_32 (fun r3 m4 => ?_)
      exact g_iret C Rr dX9_loose_35
  · refine g_aload_n C dX9_loose_10 0 rfl rfl ?_
    refine g_iconst C (1 : Int32) dX9_loose_11 rfl ?_
    refine g_callVi C cv_X9_error (ct_X9_error a0 (1 : Int32) h0 m2) q_990 h0 (by decide) rfl rfl (Nat.le_of_ble_eq_true rfl) dX9_loose_12 (fun r5 m6 => ?_)
    exact g_iret C Rr dX9_loose_15
theorem ct_X9_loose {Ω : OT} (a0 : Nat) (x1 : Int32) (h0 : tg a0 = 9) (m0 : Mem) : Ct Ω yX9_loose cX9_loose 3 (some .int) 9 [.ref (oF Ω a0), .int x1] m0 (f_X9_loose a0 x1 m0) := by
  refine Ct_of (by decide) (Nat.le_of_ble_eq_true rfl) ?_
  intro K hK C Rr
  subst hK
  exact s_X9_loose C Rr  a0 x1 h0 m0
