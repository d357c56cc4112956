def f_X8_text  (a0 : Nat) (x1 : Int32) (m0 : Mem) : Res :=
  cal (f_X8_isUse x1 m0) (fun r1 m2 =>
  (if r1 = 0 then
  cal (f_X8_error a0 (1 : Int32) m2) (fun r9 m10 =>
  some (r9, m10))
  else
  cal (f_X2_faultIn (a0 + 125) ((a0 + 1) + 5) 60 (m2 (a0 + 1) 12) x1 m2) (fun r3 m4 =>
  bnd (mset m4 (a0 + 1) 12 (0 : Int32)) (fun m5 =>
  (if r3 < 0 then
  gd (inb x1 2) (
  cal (f_X1_take (((a0 + 1) + 4) + 31 + 3 * x1.toNatClampNeg) ((a0 + 125) + 1) 60 (m5 (a0 + 125) 1) m5) (fun r7 m8 =>
  some ((1 : Int32), m8)))
  else
  some ((-10 : Int32) - r3, m5))))))
set_option maxHeartbeats 2000000 in
theorem s_X8_text {K : KT}  (C : Cx K cX8_text RX8 3 13) (Rr : Rx K (some .int))  (a0 : Nat) (x1 : Int32) (h0 : tg a0 = 8) (m0 : Mem) : G K 0 [(0, .ref (kf K a0)), (1, .int x1)] [] m0 (f_X8_text a0 x1 m0) := by
  unfold f_X8_text
  refine g_iload_n C dX8_text_0 1 rfl rfl ?_
  refine g_callSi C cv_X8_isUse q_480 (ct_X8_isUse x1  m0) q_479 (by decide) rfl rfl (Nat.le_of_ble_eq_true rfl) dX8_text_1 (fun r1 m2 => ?_)
  refine g_if_ne C 13 dX8_text_4 (by decide) (fun _ => ?_) (fun _ => ?_)
  · refine g_aload_n C dX8_text_13 0 rfl rfl ?_
    refine g_getr C 4 125 Fx8 h0 (by decide) rfl rfl q_310 dX8_text_14 ?_
    refine g_aload_n C dX8_text_17 0 rfl rfl ?_
    refine g_getr C 0 1 Fx8 h0 (by decide) rfl rfl q_306 dX8_text_18 ?_
    refine g_getr C 11 5 Fx7 (cl_8_0 h0) (by decide) rfl rfl q_150 dX8_text_21 ?_
    refine g_aload_n C dX8_text_24 0 rfl rfl ?_
    refine g_getr C 0 1 Fx8 h0 (by decide) rfl rfl q_306 dX8_text_25 ?_
    refine g_geti C 12 Fx7 (cl_8_0 h0) (by decide) rfl rfl q_152 dX8_text_28 ?_
    refine g_iload_n C dX8_text_31 1 rfl rfl ?_
    refine g_callVi C cv_X2_faultIn (ct_X2_faultIn (a0 + 125) ((a0 + 1) + 5) 60 (m2 (a0 + 1) 12) x1 (cl_8_4 h0) (cl_7_11 (cl_8_0 h0)) m2) q_482 (cl_8_4 h0) (by decide) rfl rfl (Nat.le_of_ble_eq_true rfl) dX8_text_32 (fun r3 m4 => ?_)
    refine g_istore_n C dX8_text_35 rfl (by decide) rfl ?_
    refine g_aload_n C dX8_text_36 1 rfl rfl ?_
    refine g_getr C 0 1 Fx8 h0 (by decide) rfl rfl q_306 dX8_text_37 ?_
    refine g_iconst C (0 : Int32) dX8_text_40 rfl ?_
    refine g_puti C 12 Fx7 (cl_8_0 h0) (by decide) rfl rfl rfl rfl q_152 dX8_text_41 (fun m5 => ?_)
    refine g_iload_n C dX8_text_44 0 rfl rfl ?_
    refine g_if_lt C 53 dX8_text_45 (by decide) (fun _ => ?_) (fun _ => ?_)
    · refine g_aload_n C dX8_text_53 1 rfl rfl ?_
      refine g_getr C 0 1 Fx8 h0 (by decide) rfl rfl q_306 dX8_text_54 ?_
      refine g_getr C 10 4 Fx7 (cl_8_0 h0) (by decide) rfl rfl q_148 dX8_text_57 ?_
      refine g_iload_n C dX8_text_60 2 rfl rfl ?_
      refine g_aald12 C (cl_7_10 (cl_8_0 h0)) dX8_text_61 (fun g6 => ?_)
      refine g_aload_n C dX8_text_62 1 rfl rfl ?_
      refine g_getr C 4 125 Fx8 h0 (by decide) rfl rfl q_310 dX8_text_63 ?_
      refine g_getr C 0 1 Fx2 (cl_8_4 h0) (by decide) rfl rfl q_198 dX8_text_66 ?_
      refine g_aload_n C dX8_text_69 1 rfl rfl ?_
      refine g_getr C 4 125 Fx8 h0 (by decide) rfl rfl q_310 dX8_text_70 ?_
      refine g_geti C 1 Fx2 (cl_8_4 h0) (by decide) rfl rfl q_200 dX8_text_73 ?_
      refine g_callVv C cv_X1_take (ct_X1_take (((a0 + 1) + 4) + 31 + 3 * x1.toNatClampNeg) ((a0 + 125) + 1) 60 (m5 (a0 + 125) 1) (ca_12 (cl_7_10 (cl_8_0 h0)) g6) (cl_2_0 (cl_8_4 h0)) m5) q_611 (ca_12 (cl_7_10 (cl_8_0 h0)) g6) (by decide) rfl rfl (Nat.le_of_ble_eq_true rfl) dX8_text_76 (fun r7 m8 => ?_)
      refine g_iconst C (1 : Int32) dX8_text_79 rfl ?_
      exact g_iret C Rr dX8_text_80
    · refine g_bipush C (-10 : Int32) dX8_text_48 rfl ?_
      refine g_iload_n C dX8_text_50 0 rfl rfl ?_
      refine g_isub C dX8_text_51 ?_
      exact g_iret C Rr dX8_text_52
  · refine g_aload_n C dX8_text_7 0 rfl rfl ?_
    refine g_iconst C (1 : Int32) dX8_text_8 rfl ?_
    refine g_callVi C cv_X8_error (ct_X8_error a0 (1 : Int32) h0 m2) q_344 h0 (by decide) rfl rfl (Nat.le_of_ble_eq_true rfl) dX8_text_9 (fun r9 m10 => ?_)
    exact g_iret C Rr dX8_text_12
theorem ct_X8_text {Ω : OT} (a0 : Nat) (x1 : Int32) (h0 : tg a0 = 8) (m0 : Mem) : Ct Ω yX8_text cX8_text 3 (some .int) 13 [.ref (oF Ω a0), .int x1] m0 (f_X8_text a0 x1 m0) := by
  refine Ct_of (by decide) (Nat.le_of_ble_eq_true rfl) ?_
  intro K hK C Rr
  subst hK
  exact s_X8_text C Rr  a0 x1 h0 m0
def X8_untell_J33   (a0 : Nat) (x1 : Int32) (xs0 : Int32) (m0 : Mem) : Res :=
  gd (inb x1 2) (
  bnd (mset m0 (((a0 + 1) + 4) + 31 + 3 * x1.toNatClampNeg) 1 (0 : Int32)) (fun m2 =>
  some (xs0, m2)))
def f_X8_untell  (a0 : Nat) (x1 : Int32) (m0 : Mem) : Res :=
  cal (f_X8_isUse x1 m0) (fun r1 m2 =>
  (if r1 = 0 then
  cal (f_X8_error a0 (1 : Int32) m2) (fun r6 m7 =>
  some (r6, m7))
  else
  gd (inb x1 2) (
  cal (f_X1_isTold (((a0 + 1) + 4) + 31 + 3 * x1.toNatClampNeg) m2) (fun r4 m5 =>
  (if r4 = 0 then
  X8_untell_J33 a0 x1 (0 : Int32) m5
  else
  X8_untell_J33 a0 x1 (1 : Int32) m5)))))
set_option maxHeartbeats 2000000 in
theorem s_X8_untell_J33 {K : KT}  (C : Cx K cX8_untell RX8 3 3) (Rr : Rx K (some .int))    (a0 : Nat) (x1 : Int32) (xs0 : Int32) (h0 : tg a0 = 8) (m0 : Mem) : G K 33 [(0, .ref (kf K a0)), (1, .int x1)] [.int xs0] m0 (X8_untell_J33 a0 x1 xs0 m0) := by
  unfold X8_untell_J33
  refine g_istore_n C dX8_untell_33 rfl (by decide) rfl ?_
  refine g_aload_n C dX8_untell_34 1 rfl rfl ?_
  refine g_getr C 0 1 Fx8 h0 (by decide) rfl rfl q_306 dX8_untell_35 ?_
  refine g_getr C 10 4 Fx7 (cl_8_0 h0) (by decide) rfl rfl q_148 dX8_untell_38 ?_
  refine g_iload_n C dX8_untell_41 2 rfl rfl ?_
  refine g_aald12 C (cl_7_10 (cl_8_0 h0)) dX8_untell_42 (fun g1 => ?_)
  refine g_iconst C (0 : Int32) dX8_untell_43 rfl ?_
  refine g_puti C 1 Fx1 (ca_12 (cl_7_10 (cl_8_0 h0)) g1) (by decide) rfl rfl rfl rfl q_116 dX8_untell_44 (fun m2 => ?_)
  refine g_iload_n C dX8_untell_47 0 rfl rfl ?_
  exact g_iret C Rr dX8_untell_48
set_option maxHeartbeats 2000000 in
theorem s_X8_untell {K : KT}  (C : Cx K cX8_untell RX8 3 3) (Rr : Rx K (some .int))  (a0 : Nat) (x1 : Int32) (h0 : tg a0 = 8) (m0 : Mem) : G K 0 [(0, .ref (kf K a0)), (1, .int x1)] [] m0 (f_X8_untell a0 x1 m0) := by
  unfold f_X8_untell
  refine g_iload_n C dX8_untell_0 1 rfl rfl ?_
  refine g_callSi C cv_X8_isUse q_480 (ct_X8_isUse x1  m0) q_479 (by decide) rfl rfl (Nat.le_of_ble_eq_true rfl) dX8_untell_1 (fun r1 m2 => ?_)
  refine g_if_ne C 13 dX8_untell_4 (by decide) (fun _ => ?_) (fun _ => ?_)
  · refine g_aload_n C dX8_untell_13 0 rfl rfl ?_
    refine g_getr C 0 1 Fx8 h0 (by decide) rfl rfl q_306 dX8_untell_14 ?_
    refine g_getr C 10 4 Fx7 (cl_8_0 h0) (by decide) rfl rfl q_148 dX8_untell_17 ?_
    refine g_iload_n C dX8_untell_20 1 rfl rfl ?_
    refine g_aald12 C (cl_7_10 (cl_8_0 h0)) dX8_untell_21 (fun g3 => ?_)
    refine g_callVi C cv_X1_isTold (ct_X1_isTold (((a0 + 1) + 4) + 31 + 3 * x1.toNatClampNeg) (ca_12 (cl_7_10 (cl_8_0 h0)) g3) m2) q_622 (ca_12 (cl_7_10 (cl_8_0 h0)) g3) (by decide) rfl rfl (Nat.le_of_ble_eq_true rfl) dX8_untell_22 (fun r4 m5 => ?_)
    refine g_if_eq C 32 dX8_untell_25 (by decide) (fun _ => ?_) (fun _ => ?_)
    · refine g_iconst C (0 : Int32) dX8_untell_32 rfl ?_
      refine g_sub [0, 1] rfl ?_
      exact s_X8_untell_J33 C Rr a0 x1 (0 : Int32) h0 m5
    · refine g_iconst C (1 : Int32) dX8_untell_28 rfl ?_
      refine g_goto C 33 dX8_untell_29 (by decide) ?_
      refine g_sub [0, 1] rfl ?_
      exact s_X8_untell_J33 C Rr a0 x1 (1 : Int32) h0 m5
  · refine g_aload_n C dX8_untell_7 0 rfl rfl ?_
    refine g_iconst C (1 : Int32) dX8_untell_8 rfl ?_
    refine g_callVi C cv_X8_error (ct_X8_error a0 (1 : Int32) h0 m2) q_344 h0 (by decide) rfl rfl (Nat.le_of_ble_eq_true rfl) dX8_untell_9 (fun r6 m7 => ?_)
    exact g_iret C Rr dX8_untell_12
theorem ct_X8_untell {Ω : OT} (a0 : Nat) (x1 : Int32) (h0 : tg a0 = 8) (m0 : Mem) : Ct Ω yX8_untell cX8_untell 3 (some .int) 3 [.ref (oF Ω a0), .int x1] m0 (f_X8_untell a0 x1 m0) := by
  refine Ct_of (by decide) (Nat.le_of_ble_eq_true rfl) ?_
  intro K hK C Rr
  subst hK
  exact s_X8_untell C Rr  a0 x1 h0 m0
def f_X8_morning  (a0 : Nat) (m0 : Mem) : Res :=
  cal (f_X7_passMorning (a0 + 1) m0) (fun r1 m2 =>
  cal (f_X7_things (a0 + 1) m2) (fun r3 m4 =>
  some (r3, m4)))
set_option maxHeartbeats 2000000 in
theorem s_X8_morning {K : KT}  (C : Cx K cX8_morning RX8 1 6) (Rr : Rx K (some .int))  (a0 : Nat) (h0 : tg a0 = 8) (m0 : Mem) : G K 0 [(0, .ref (kf K a0))] [] m0 (f_X8_morning a0 m0) := by
  unfold f_X8_morning
  refine g_aload_n C dX8_morning_0 0 rfl rfl ?_
  refine g_getr C 0 1 Fx8 h0 (by decide) rfl rfl q_306 dX8_morning_1 ?_
  refine g_callVv C cv_X7_passMorning (ct_X7_passMorning (a0 + 1) (cl_8_0 h0) m0) q_627 (cl_8_0 h0) (by decide) rfl rfl (Nat.le_of_ble_eq_true rfl) dX8_morning_4 (fun r1 m2 => ?_)
  refine g_aload_n C dX8_morning_7 0 rfl rfl ?_
  refine g_getr C 0 1 Fx8 h0 (by decide) rfl rfl q_306 dX8_morning_8 ?_
  refine g_callVi C cv_X7_things (ct_X7_things (a0 + 1) (cl_8_0 h0) m2) q_657 (cl_8_0 h0) (by decide) rfl rfl (Nat.le_of_ble_eq_true rfl) dX8_morning_11 (fun r3 m4 => ?_)
  exact g_iret C Rr dX8_morning_14
theorem ct_X8_morning {Ω : OT} (a0 : Nat) (h0 : tg a0 = 8) (m0 : Mem) : Ct Ω yX8_morning cX8_morning 1 (some .int) 6 [.ref (oF Ω a0)] m0 (f_X8_morning a0 m0) := by
  refine Ct_of (by decide) (Nat.le_of_ble_eq_true rfl) ?_
  intro K hK C Rr
  subst hK
  exact s_X8_morning C Rr  a0 h0 m0
def f_X8_visit  (a0 : Nat) (x1 : Int32) (m0 : Mem) : Res :=
  cal (f_X7_hasCustomer (a0 + 1) x1 m0) (fun r1 m2 =>
  (if r1 = 0 then
  cal (f_X8_error a0 (1 : Int32) m2) (fun r5 m6 =>
  some (r5, m6))
  else
  cal (f_X7_goAlong (a0 + 1) x1 m2) (fun r3 m4 =>
  some (r3, m4))))
set_option maxHeartbeats 2000000 in
theorem s_X8_visit {K : KT}  (C : Cx K cX8_visit RX8 2 5) (Rr : Rx K (some .int))  (a0 : Nat) (x1 : Int32) (h0 : tg a0 = 8) (m0 : Mem) : G K 0 [(0, .ref (kf K a0)), (1, .int x1)] [] m0 (f_X8_visit a0 x1 m0) := by
  unfold f_X8_visit
  refine g_aload_n C dX8_visit_0 0 rfl rfl ?_
  refine g_getr C 0 1 Fx8 h0 (by decide) rfl rfl q_306 dX8_visit_1 ?_
  refine g_iload_n C dX8_visit_4 1 rfl rfl ?_
  refine g_callVi C cv_X7_hasCustomer (ct_X7_hasCustomer (a0 + 1) x1 (cl_8_0 h0) m0) q_463 (cl_8_0 h0) (by decide) rfl rfl (Nat.le_of_ble_eq_true rfl) dX8_visit_5 (fun r1 m2 => ?_)
  refine g_if_ne C 17 dX8_visit_8 (by decide) (fun _ => ?_) (fun _ => ?_)
  · refine g_aload_n C dX8_visit_17 0 rfl rfl ?_
    refine g_getr C 0 1 Fx8 h0 (by decide) rfl rfl q_306 dX8_visit_18 ?_
    refine g_iload_n C dX8_visit_21 1 rfl rfl ?_
    refine g_callVi C cv_X7_goAlong (ct_X7_goAlong (a0 + 1) x1 (cl_8_0 h0) m2) q_669 (cl_8_0 h0) (by decide) rfl rfl (Nat.le_of_ble_eq_true rfl) dX8_visit_22 (fun r3 m4 => ?_)
    exact g_iret C Rr dX8_visit_25
  · refine g_aload_n C dX8_visit_11 0 rfl rfl ?_
    refine g_iconst C (1 : Int32) dX8_visit_12 rfl ?_
    refine g_callVi C cv_X8_error (ct_X8_error a0 (1 : Int32) h0 m2) q_344 h0 (by decide) rfl rfl (Nat.le_of_ble_eq_true rfl) dX8_visit_13 (fun r5 m6 => ?_)
    exact g_iret C Rr dX8_visit_16
theorem ct_X8_visit {Ω : OT} (a0 : Nat) (x1 : Int32) (h0 : tg a0 = 8) (m0 : Mem) : Ct Ω yX8_visit cX8_visit 2 (some .int) 5 [.ref (oF Ω a0), .int x1] m0 (f_X8_visit a0 x1 m0) := by
  refine Ct_of (by decide) (Nat.le_of_ble_eq_true rfl) ?_
  intro K hK C Rr
  subst hK
  exact s_X8_visit C Rr  a0 x1 h0 m0
def X8_daysRefusal_J32   (xs0 : Int32) (m0 : Mem) : Res :=
  some (xs0, m0)
def f_X8_daysRefusal  (a0 : Nat) (x1 : Int32) (m0 : Mem) : Res :=
  cal (f_X8_within x1 (1 : Int32) (60 : Int32) m0) (fun r1 m2 =>
  (if r1 = 0 then
  some ((1 : Int32), m2)
  else
  (if ((m2 (a0 + 1) 7) + x1) ≤ (9999 : Int32) then
  X8_daysRefusal_J32 (0 : Int32) m2
  else
  X8_daysRefusal_J32 (3 : Int32) m2)))
set_option maxHeartbeats 2000000 in
theorem s_X8_daysRefusal_J32 {K : KT}  (C : Cx K cX8_daysRefusal RX8 2 2) (Rr : Rx K (some .int))    (xs0 : Int32)  (m0 : Mem) : G K 32 [] [.int xs0] m0 (X8_daysRefusal_J32 xs0 m0) := by
  unfold X8_daysRefusal_J32
  exact g_iret C Rr dX8_daysRefusal_32
set_option maxHeartbeats 2000000 in
theorem s_X8_daysRefusal {K : KT}  (C : Cx K cX8_daysRefusal RX8 2 2) (Rr : Rx K (some .int))  (a0 : Nat) (x1 : Int32) (h0 : tg a0 = 8) (m0 : Mem) : G K 0 [(0, .ref (kf K a0)), (1, .int x1)] [] m0 (f_X8_daysRefusal a0 x1 m0) := by
  unfold f_X8_daysRefusal
  refine g_iload_n C dX8_daysRefusal_0 1 rfl rfl ?_
  refine g_iconst C (1 : Int32) dX8_daysRefusal_1 rfl ?_
  refine g_bipush C (60 : Int32) dX8_daysRefusal_2 rfl ?_
  refine g_callSi C cv_X8_within q_342 (ct_X8_within x1 (1 : Int32) (60 : Int32)  m0) q_341 (by decide) rfl rfl (Nat.le_of_ble_eq_true rfl) dX8_daysRefusal_4 (fun r1 m2 => ?_)
  refine g_if_ne C 12 dX8_daysRefusal_7 (by decide) (fun _ => ?_) (fun _ => ?_)
  · refine g_aload_n C dX8_daysRefusal_12 0 rfl rfl ?_
    refine g_getr C 0 1 Fx8 h0 (by decide) rfl rfl q_306 dX8_daysRefusal_13 ?_
    refine g_geti C 7 Fx7 (cl_8_0 h0) (by decide) rfl rfl q_142 dX8_daysRefusal_16 ?_
    refine g_iload_n C dX8_daysRefusal_19 1 rfl rfl ?_
    refine g_iadd C dX8_daysRefusal_20 ?_
    refine g_sipush C (9999 : Int32) dX8_daysRefusal_21 rfl ?_
    refine g_icmp_le C 31 dX8_daysRefusal_24 (by decide) (fun _ => ?_) (fun _ => ?_)
    · refine g_iconst C (0 : Int32) dX8_daysRefusal_31 rfl ?_
      refine g_sub [] rfl ?_
      exact s_X8_daysRefusal_J32 C Rr (0 : Int32) m2
    · refine g_iconst C (3 : Int32) dX8_daysRefusal_27 rfl ?_
      refine g_goto C 32 dX8_daysRefusal_28 (by decide) ?_
      refine g_sub [] rfl ?_
      exact s_X8_daysRefusal_J32 C Rr (3 : Int32) m2
  · refine g_iconst C (1 : Int32) dX8_daysRefusal_10 rfl ?_
    exact g_iret C Rr dX8_daysRefusal_11
theorem ct_X8_daysRefusal {Ω : OT} (a0 : Nat) (x1 : Int32) (h0 : tg a0 = 8) (m0 : Mem) : Ct Ω yX8_daysRefusal cX8_daysRefusal 2 (some .int) 2 [.ref (oF Ω a0), .int x1] m0 (f_X8_daysRefusal a0 x1 m0) := by
  refine Ct_of (by decide) (Nat.le_of_ble_eq_true rfl) ?_
  intro K hK C Rr
  subst hK
  exact s_X8_daysRefusal C Rr  a0 x1 h0 m0
def f_X8_days  (a0 : Nat) (x1 : Int32) (m0 : Mem) : Res :=
  cal (f_X8_daysRefusal a0 x1 m0) (fun r1 m2 =>
  (if r1 = 0 then
  cal (f_X7_pass (a0 + 1) x1 (0 : Int32) m2) (fun r3 m4 =>
  some (m4 (a0 + 1) 8, m4))
  else
  cal (f_X8_error a0 r1 m2) (fun r5 m6 =>
  some (r5, m6))))
set_option maxHeartbeats 2000000 in
theorem s_X8_days {K : KT}  (C : Cx K cX8_days RX8 3 7) (Rr : Rx K (some .int))  (a0 : Nat) (x1 : Int32) (h0 : tg a0 = 8) (m0 : Mem) : G K 0 [(0, .ref (kf K a0)), (1, .int x1)] [] m0 (f_X8_days a0 x1 m0) := by
  unfold f_X8_days
  refine g_aload_n C dX8_days_0 0 rfl rfl ?_
  refine g_iload_n C dX8_days_1 1 rfl rfl ?_
  refine g_callVi C cv_X8_daysRefusal (ct_X8_daysRefusal a0 x1 h0 m0) q_681 h0 (by decide) rfl rfl (Nat.le_of_ble_eq_true rfl) dX8_days_2 (fun r1 m2 => ?_)
  refine g_istore_n C dX8_days_5 rfl (by decide) rfl ?_
  refine g_iload_n C dX8_days_6 0 rfl rfl ?_
  refine g_if_eq C 16 dX8_days_7 (by decide) (fun _ => ?_) (fun _ => ?_)
  · refine g_aload_n C dX8_days_16 1 rfl rfl ?_
    refine g_getr C 0 1 Fx8 h0 (by decide) rfl rfl q_306 dX8_days_17 ?_
    refine g_iload_n C dX8_days_20 2 rfl rfl ?_
    refine g_iconst C (0 : Int32) dX8_days_21 rfl ?_
    refine g_callVv C cv_X7_pass (ct_X7_pass (a0 + 1) x1 (0 : Int32) (cl_8_0 h0) m2) q_685 (cl_8_0 h0) (by decide) rfl rfl (Nat.le_of_ble_eq_true rfl) dX8_days_22 (fun r3 m4 => ?_)
    refine g_aload_n C dX8_days_25 1 rfl rfl ?_
    refine g_getr C 0 1 Fx8 h0 (by decide) rfl rfl q_306 dX8_days_26 ?_
    refine g_geti C 8 Fx7 (cl_8_0 h0) (by decide) rfl rfl q_144 dX8_days_29 ?_
    exact g_iret C Rr dX8_days_32
  · refine g_aload_n C dX8_days_10 1 rfl rfl ?_
    refine g_iload_n C dX8_days_11 0 rfl rfl ?_
    refine g_callVi C cv_X8_error (ct_X8_error a0 r1 h0 m2) q_344 h0 (by decide) rfl rfl (Nat.le_of_ble_eq_true rfl) dX8_days_12 (fun r5 m6 => ?_)
    exact g_iret C Rr dX8_days_15
theorem ct_X8_days {Ω : OT} (a0 : Nat) (x1 : Int32) (h0 : tg a0 = 8) (m0 : Mem) : Ct Ω yX8_days cX8_days 3 (some .int) 7 [.ref (oF Ω a0), .int x1] m0 (f_X8_days a0 x1 m0) := by
  refine Ct_of (by decide) (Nat.le_of_ble_eq_true rfl) ?_
  intro K hK C Rr
  subst hK
  exact s_X8_days C Rr  a0 x1 h0 m0
def f_X8_loose  (a0 : Nat) (x1 : Int32) (m0 : Mem) : Res :=
  cal (f_X8_daysRefusal a0 x1 m0) (fun r1 m2 =>
  (if r1 = 0 then
  cal (f_X7_pass (a0 + 1) x1 (1 : Int32) m2) (fun r3 m4 =>
  some (m4 (a0 + 1) 8, m4))
  else
  cal (f_X8_error a0 r1 m2) (fun r5 m6 =>
  some (r5, m6))))
set_option maxHeartbeats 2000000 in
theorem s_X8_loose {K : KT}  (C : Cx K cX8_loose RX8 3 7) (Rr : Rx K (some .int))  (a0 : Nat) (x1 : Int32) (h0 : tg a0 = 8) (m0 : Mem) : G K 0 [(0, .ref (kf K a0)), (1, .int x1)] [] m0 (f_X8_loose a0 x1 m0) := by
  unfold f_X8_loose
  refine g_aload_n C dX8_loose_0 0 rfl rfl ?_
  refine g_iload_n C dX8_loose_1 1 rfl rfl ?_
  refine g_callVi C cv_X8_daysRefusal (ct_X8_daysRefusal a0 x1 h0 m0) q_681 h0 (by decide) rfl rfl (Nat.le_of_ble_eq_true rfl) dX8_loose_2 (fun r1 m2 => ?_)
  refine g_istore_n C dX8_loose_5 rfl (by decide) rfl ?_
  refine g_iload_n C dX8_loose_6 0 rfl rfl ?_
  refine g_if_eq C 16 dX8_loose_7 (by decide) (fun _ => ?_) (fun _ => ?_)
  · refine g_aload_n C dX8_loose_16 1 rfl rfl ?_
    refine g_getr C 0 1 Fx8 h0 (by decide) rfl rfl q_306 dX8_loose_17 ?_
    refine g_iload_n C dX8_loose_20 2 rfl rfl ?_
    refine g_iconst C (1 : Int32) dX8_loose_21 rfl ?_
    refine g_callVv C cv_X7_pass (ct_X7_pass (a0 + 1) x1 (1 : Int32) (cl_8_0 h0) m2) q_685 (cl_8_0 h0) (by decide) rfl rfl (Nat.le_of_ble_eq_true rfl) dX8_loose_22 (fun r3 m4 => ?_)
    refine g_aload_n C dX8_loose_25 1 rfl rfl ?_
    refine g_getr C 0 1 Fx8 h0 (by decide) rfl rfl q_306 dX8_loose_26 ?_
    refine g_geti C 8 Fx7 (cl_8_0 h0) (by decide) rfl rfl q_144 dX8_loose_29 ?_
    exact g_iret C Rr dX8_loose_32
  · refine g_aload_n C dX8_loose_10 1 rfl rfl ?_
    refine g_iload_n C dX8_loose_11 0 rfl rfl ?_
    refine g_callVi C cv_X8_error (ct_X8_error a0 r1 h0 m2) q_344 h0 (by decide) rfl rfl (Nat.le_of_ble_eq_true rfl) dX8_loose_12 (fun r5 m6 => ?_)
    exact g_iret C Rr dX8_loose_15
theorem ct_X8_loose {Ω : OT} (a0 : Nat) (x1 : Int32) (h0 : tg a0 = 8) (m0 : Mem) : Ct Ω yX8_loose cX8_loose 3 (some .int) 7 [.ref (oF Ω a0), .int x1] m0 (f_X8_loose a0 x1 m0) := by
  refine Ct_of (by decide) (Nat.le_of_ble_eq_true rfl) ?_
  intro K hK C Rr
  subst hK
  exact s_X8_loose C Rr  a0 x1 h0 m0
def f_X8_seed  (a0 : Nat) (x1 : Int32) (m0 : Mem) : Res :=
  bnd (m0 (a0 + 1) 9) (fun y1 =>
  bnd (mset m0 (a0 + 1) 9 x1) (fun m2 =>
  some (y1, m2)))
set_option maxHeartbeats 2000000 in
theorem s_X8_seed {K : KT}  (C : Cx K cX8_seed RX8 3 1) (Rr : Rx K (some .int))  (a0 : Nat) (x1 : Int32) (h0 : tg a0 = 8) (m0 : Mem) : G K 0 [(0, .ref (kf K a0)), (1, .int x1)] [] m0 (f_X8_seed a0 x1 m0) := by
  unfold f_X8_seed
  refine g_aload_n C dX8_seed_0 0 rfl rfl ?_
  refine g_getr C 0 1 Fx8 h0 (by decide) rfl rfl q_306 dX8_seed_1 ?_
  refine g_geti C 9 Fx7 (cl_8_0 h0) (by decide) rfl rfl q_146 dX8_seed_4 ?_
  refine g_bnd (fun y1 => ?_)
  refine g_istore_n C dX8_seed_7 rfl (by decide) rfl ?_
  refine g_aload_n C dX8_seed_8 1 rfl rfl ?_
  refine g_getr C 0 1 Fx8 h0 (by decide) rfl rfl q_306 dX8_seed_9 ?_
  refine g_iload_n C dX8_seed_12 2 rfl rfl ?_
  refine g_puti C 9 Fx7 (cl_8_0 h0) (by decide) rfl rfl rfl rfl q_146 dX8_seed_13 (fun m2 => ?_)
  refine g_iload_n C dX8_seed_16 0 rfl rfl ?_
  exact g_iret C Rr dX8_seed_17
theorem ct_X8_seed {Ω : OT} (a0 : Nat) (x1 : Int32) (h0 : tg a0 = 8) (m0 : Mem) : Ct Ω yX8_seed cX8_seed 3 (some .int) 1 [.ref (oF Ω a0), .int x1] m0 (f_X8_seed a0 x1 m0) := by
  refine Ct_of (by decide) (Nat.le_of_ble_eq_true rfl) ?_
  intro K hK C Rr
  subst hK
  exact s_X8_seed C Rr  a0 x1 h0 m0
def X8_then_J31   (a0 : Nat) (m0 : Mem) : Res :=
  cal (f_X8_error a0 (1 : Int32) m0) (fun r1 m2 =>
  some (r1, m2))
def f_X8_then  (a0 : Nat) (x1 : Int32) (x2 : Int32) (x3 : Int32) (m0 : Mem) : Res :=
  cal (f_X8_within x1 (0 : Int32) (60 : Int32) m0) (fun r1 m2 =>
  (if r1 = 0 then
  X8_then_J31 a0 m2
  else
  cal (f_X7_hasShop (a0 + 1) x2 m2) (fun r3 m4 =>
  (if r3 = 0 then
  X8_then_J31 a0 m4
  else
  cal (f_X8_within x3 (0 : Int32) (15 : Int32) m4) (fun r5 m6 =>
  (if r5 = 0 then
  X8_then_J31 a0 m6
  else
  cal (f_X7_copyFrom (a0 + 83) (a0 + 1) m6) (fun r7 m8 =>
  cal (f_X7_pass (a0 + 83) x1 (0 : Int32) m8) (fun r9 m10 =>
  cal (f_X7_factOf (a0 + 83) x2 x3 m10) (fun r11 m12 =>
  some (r11, m12))))))))))
set_option maxHeartbeats 2000000 in
theorem s_X8_then_J31 {K : KT}  (C : Cx K cX8_then RX8 4 7) (Rr : Rx K (some .int))    (a0 : Nat) (h0 : tg a0 = 8) (m0 : Mem) : G K 31 [(0, .ref (kf K a0))] [] m0 (X8_then_J31 a0 m0) := by
  unfold X8_then_J31
  refine g_aload_n C dX8_then_31 0 rfl rfl ?_
  refine g_iconst C (1 : Int32) dX8_then_32 rfl ?_
  refine g_callVi C cv_X8_error (ct_X8_error a0 (1 : Int32) h0 m0) q_344 h0 (by decide) rfl rfl (Nat.le_of_ble_eq_true rfl) dX8_then_33 (fun r1 m2 => ?_)
  exact g_iret C Rr dX8_then_36
set_option maxHeartbeats 2000000 in
theorem s_X8_then {K : KT}  (C : Cx K cX8_then RX8 4 7) (Rr : Rx K (some .int))  (a0 : Nat) (x1 : Int32) (x2 : Int32) (x3 : Int32) (h0 : tg a0 = 8) (m0 : Mem) : G K 0 [(0, .ref (kf K a0)), (1, .int x1), (2, .int x2), (3, .int x3)] [] m0 (f_X8_then a0 x1 x2 x3 m0) := by
  unfold f_X8_then
  refine g_iload_n C dX8_then_0 1 rfl rfl ?_
  refine g_iconst C (0 : Int32) dX8_then_1 rfl ?_
  refine g_bipush C (60 : Int32) dX8_then_2 rfl ?_
  refine g_callSi C cv_X8_within q_342 (ct_X8_within x1 (0 : Int32) (60 : Int32)  m0) q_341 (by decide) rfl rfl (Nat.le_of_ble_eq_true rfl) dX8_then_4 (fun r1 m2 => ?_)
  refine g_if_eq C 31 dX8_then_7 (by decide) (fun _ => ?_) (fun _ => ?_)
  · refine g_sub [0] rfl ?_
    exact s_X8_then_J31 C Rr a0 h0 m2
  · refine g_aload_n C dX8_then_10 0 rfl rfl ?_
    refine g_getr C 0 1 Fx8 h0 (by decide) rfl rfl q_306 dX8_then_11 ?_
    refine g_iload_n C dX8_then_14 2 rfl rfl ?_
    refine g_callVi C cv_X7_hasShop (ct_X7_hasShop (a0 + 1) x2 (cl_8_0 h0) m2) q_366 (cl_8_0 h0) (by decide) rfl rfl (Nat.le_of_ble_eq_true rfl) dX8_then_15 (fun r3 m4 => ?_)
    refine g_if_eq C 31 dX8_then_18 (by decide) (fun _ => ?_) (fun _ => ?_)
    · refine g_sub [0] rfl ?_
      exact s_X8_then_J31 C Rr a0 h0 m4
    · refine g_iload_n C dX8_then_21 3 rfl rfl ?_
      refine g_iconst C (0 : Int32) dX8_then_22 rfl ?_
      refine g_bipush C (15 : Int32) dX8_then_23 rfl ?_
      refine g_callSi C cv_X8_within q_342 (ct_X8_within x3 (0 : Int32) (15 : Int32)  m4) q_341 (by decide) rfl rfl (Nat.le_of_ble_eq_true rfl) dX8_then_25 (fun r5 m6 => ?_)
      refine g_if_ne C 37 dX8_then_28 (by decide) (fun _ => ?_) (fun _ => ?_)
      · refine g_aload_n C dX8_then_37 0 rfl rfl ?_
        refine g_getr C 2 83 Fx8 h0 (by decide) rfl rfl q_308 dX8_then_38 ?_
        refine g_aload_n C dX8_then_41 0 rfl rfl ?_
        refine g_getr C 0 1 Fx8 h0 (by decide) rfl rfl q_306 dX8_then_42 ?_
        refine g_callVv C cv_X7_copyFrom (ct_X7_copyFrom (a0 + 83) (a0 + 1) (cl_8_2 h0) (cl_8_0 h0) m6) q_714 (cl_8_2 h0) (by decide) rfl rfl (Nat.le_of_ble_eq_true rfl) dX8_then_45 (fun r7 m8 => ?_)
        refine g_aload_n C dX8_then_48 0 rfl rfl ?_
        refine g_getr C 2 83 Fx8 h0 (by decide) rfl rfl q_308 dX8_then_49 ?_
        refine g_iload_n C dX8_then_52 1 rfl rfl ?_
        refine g_iconst C (0 : Int32) dX8_then_53 rfl ?_
        refine g_callVv C cv_X7_pass (ct_X7_pass (a0 + 83) x1 (0 : Int32) (cl_8_2 h0) m8) q_685 (cl_8_2 h0) (by decide) rfl rfl (Nat.le_of_ble_eq_true rfl) dX8_then_54 (fun r9 m10 => ?_)
        refine g_aload_n C dX8_then_57 0 rfl rfl ?_
        refine g_getr C 2 83 Fx8 h0 (by decide) rfl rfl q_308 dX8_then_58 ?_
        refine g_iload_n C dX8_then_61 2 rfl rfl ?_
        refine g_iload_n C dX8_then_62 3 rfl rfl ?_
        refine g_callVi C cv_X7_factOf (ct_X7_factOf (a0 + 83) x2 x3 (cl_8_2 h0) m10) q_371 (cl_8_2 h0) (by decide) rfl rfl (Nat.le_of_ble_eq_true rfl) dX8_then_63 (fun r11 m12 => ?_)
        exact g_iret C Rr dX8_then_66
      · refine g_sub [0] rfl ?_
        exact s_X8_then_J31 C Rr a0 h0 m6
theorem ct_X8_then {Ω : OT} (a0 : Nat) (x1 : Int32) (x2 : Int32) (x3 : Int32) (h0 : tg a0 = 8) (m0 : Mem) : Ct Ω yX8_then cX8_then 4 (some .int) 7 [.ref (oF Ω a0), .int x1, .int x2, .int x3] m0 (f_X8_then a0 x1 x2 x3 m0) := by
  refine Ct_of (by decide) (Nat.le_of_ble_eq_true rfl) ?_
  intro K hK C Rr
  subst hK
  exact s_X8_then C Rr  a0 x1 x2 x3 h0 m0
def X8_keep_J28   (a0 : Nat) (m0 : Mem) : Res :=
  cal (f_X8_error a0 (1 : Int32) m0) (fun r1 m2 =>
  some (r1, m2))
def X8_keep_J122  (k44 : Nat → Int32 → Int32 → Int32 → Int32 → Int32 → Int32 → Mem → Res) (a0 : Nat) (x1 : Int32) (x2 : Int32) (x3 : Int32) (x4 : Int32) (x5 : Int32) (x6 : Int32) (m0 : Mem) : Res :=
  bnd (x6 + (1 : Int32)) (fun y1 =>
  k44 a0 x1 x2 x3 x4 x5 y1 m0)
def X8_keep_L44B  (k44 : Nat → Int32 → Int32 → Int32 → Int32 → Int32 → Int32 → Mem → Res) (a0 : Nat) (x1 : Int32) (x2 : Int32) (x3 : Int32) (x4 : Int32) (x5 : Int32) (x6 : Int32) (m0 : Mem) : Res :=
  (if (9 : Int32) < x6 then
  some (x4, m0)
  else
  cal (f_X7_copyFrom (a0 + 83) (a0 + 1) m0) (fun r1 m2 =>
  gd (inb x1 6) (
  gd (inb x2 6) (bnd (mset m2 ((((a0 + 83) + 2) + 5 + 3 * x1.toNatClampNeg) + 1) x2.toNatClampNeg x6) (fun m4 =>
  cal (f_X7_pass (a0 + 83) x3 (0 : Int32) m4) (fun r5 m6 =>
  gd (inb x1 6) (
  (if (m6 (((a0 + 83) + 2) + 5 + 3 * x1.toNatClampNeg) 2) ≤ x5 then
  X8_keep_J122 k44 a0 x1 x2 x3 x4 x5 x6 m6
  else
  gd (inb x1 6) (
  bnd (m6 (((a0 + 83) + 2) + 5 + 3 * x1.toNatClampNeg) 2) (fun y9 =>
  X8_keep_J122 k44 a0 x1 x2 x3 x6 y9 x6 m6))))))))))
def X8_keep_L44   : Nat → Nat → Int32 → Int32 → Int32 → Int32 → Int32 → Int32 → Mem → Res
  | 0 => fun _ _ _ _ _ _ _ _ => none
  | n + 1 => X8_keep_L44B (X8_keep_L44 n)
def f_X8_keep  (a0 : Nat) (x1 : Int32) (x2 : Int32) (x3 : Int32) (m0 : Mem) : Res :=
  cal (f_X7_hasShop (a0 + 1) x1 m0) (fun r1 m2 =>
  (if r1 = 0 then
  X8_keep_J28 a0 m2
  else
  cal (f_X8_isGood x2 m2) (fun r3 m4 =>
  (if r3 = 0 then
  X8_keep_J28 a0 m4
  else
  cal (f_X8_within x3 (1 : Int32) (20 : Int32) m4) (fun r5 m6 =>
  (if r5 = 0 then
  X8_keep_J28 a0 m6
  else
  X8_keep_L44 FU a0 x1 x2 x3 (0 : Int32) (-1000000 : Int32) (0 : Int32) m6))))))
set_option maxHeartbeats 2000000 in
theorem s_X8_keep_J28 {K : KT}  (C : Cx K cX8_keep RX8 7 7) (Rr : Rx K (some .int))    (a0 : Nat) (h0 : tg a0 = 8) (m0 : Mem) : G K 28 [(0, .ref (kf K a0))] [] m0 (X8_keep_J28 a0 m0) := by
  unfold X8_keep_J28
  refine g_aload_n C dX8_keep_28 0 rfl rfl ?_
  refine g_iconst C (1 : Int32) dX8_keep_29 rfl ?_
  refine g_callVi C cv_X8_error (ct_X8_error a0 (1 : Int32) h0 m0) q_344 h0 (by decide) rfl rfl (Nat.le_of_ble_eq_true rfl) dX8_keep_30 (fun r1 m2 => ?_)
  exact g_iret C Rr dX8_keep_33
set_option maxHeartbeats 2000000 in
theorem s_X8_keep_J122 {K : KT}  (C : Cx K cX8_keep RX8 7 7) (Rr : Rx K (some .int))  {k44 : Nat → Int32 → Int32 → Int32 → Int32 → Int32 → Int32 → Mem → Res} (hk44 : ∀ (a0 : Nat) (x1 : Int32) (x2 : Int32) (x3 : Int32) (x4 : Int32) (x5 : Int32) (x6 : Int32) (h0 : tg a0 = 8) (m0 : Mem), G K 44 [(0, .ref (kf K a0)), (1, .int x1), (2, .int x2), (3, .int x3), (4, .int x4), (5, .int x5), (6, .int x6)] [] m0 (k44 a0 x1 x2 x3 x4 x5 x6 m0)) (a0 : Nat) (x1 : Int32) (x2 : Int32) (x3 : Int32) (x4 : Int32) (x5 : Int32) (x6 : Int32) (h0 : tg a0 = 8) (m0 : Mem) : G K 122 [(0, .ref (kf K a0)), (1, .int x1), (2, .int x2), (3, .int x3), (4, .int x4), (5, .int x5), (6, .int x6)] [] m0 (X8_keep_J122 k44 a0 x1 x2 x3 x4 x5 x6 m0) := by
  unfold X8_keep_J122
  refine g_iinc (k := 6) C dX8_keep_122 rfl (w := (1 : Int32)) rfl (by decide) (fun v_ => [(6, .int v_), (0, .ref (kf K a0)), (1, .int x1), (2, .int x2), (3, .int x3), (4, .int x4), (5, .int x5)]) (fun _ => rfl) (fun y1 => ?_)
  refine g_goto C 44 dX8_keep_125 (by decide) ?_
  refine g_sub [1, 2, 3, 4, 5, 6, 0] rfl ?_
  exact hk44 a0 x1 x2 x3 x4 x5 y1 h0 m0
set_option maxHeartbeats 2000000 in
theorem s_X8_keep_L44B {K : KT}  (C : Cx K cX8_keep RX8 7 7) (Rr : Rx K (some .int))  {k44 : Nat → Int32 → Int32 → Int32 → Int32 → Int32 → Int32 → Mem → Res} (hk44 : ∀ (a0 : Nat) (x1 : Int32) (x2 : Int32) (x3 : Int32) (x4 : Int32) (x5 : Int32) (x6 : Int32) (h0 : tg a0 = 8) (m0 : Mem), G K 44 [(0, .ref (kf K a0)), (1, .int x1), (2, .int x2), (3, .int x3), (4, .int x4), (5, .int x5), (6, .int x6)] [] m0 (k44 a0 x1 x2 x3 x4 x5 x6 m0)) (a0 : Nat) (x1 : Int32) (x2 : Int32) (x3 : Int32) (x4 : Int32) (x5 : Int32) (x6 : Int32) (h0 : tg a0 = 8) (m0 : Mem) : G K 44 [(0, .ref (kf K a0)), (1, .int x1), (2, .int x2), (3, .int x3), (4, .int x4), (5, .int x5), (6, .int x6)] [] m0 (X8_keep_L44B k44 a0 x1 x2 x3 x4 x5 x6 m0) := by
  unfold X8_keep_L44B
  refine g_iload C dX8_keep_44 6 rfl ?_
  refine g_bipush C (9 : Int32) dX8_keep_46 rfl ?_
  refine g_icmp_gt C 128 dX8_keep_48 (by decide) (fun _ => ?_) (fun _ => ?_)
  · refine g_iload C dX8_keep_128 4 rfl ?_
    exact g_iret C Rr dX8_keep_130
  · refine g_aload_n C dX8_keep_51 0 rfl rfl ?_
    refine g_getr C 2 83 Fx8 h0 (by decide) rfl rfl q_308 dX8_keep_52 ?_
    refine g_aload_n C dX8_keep_55 0 rfl rfl ?_
    refine g_getr C 0 1 Fx8 h0 (by decide) rfl rfl q_306 dX8_keep_56 ?_
    refine g_callVv C cv_X7_copyFrom (ct_X7_copyFrom (a0 + 83) (a0 + 1) (cl_8_2 h0) (cl_8_0 h0) m0) q_714 (cl_8_2 h0) (by decide) rfl rfl (Nat.le_of_ble_eq_true rfl) dX8_keep_59 (fun r1 m2 => ?_)
    refine g_aload_n C dX8_keep_62 0 rfl rfl ?_
    refine g_getr C 2 83 Fx8 h0 (by decide) rfl rfl q_308 dX8_keep_63 ?_
    refine g_getr C 3 2 Fx7 (cl_8_2 h0) (by decide) rfl rfl q_133 dX8_keep_66 ?_
    refine g_iload_n C dX8_keep_69 1 rfl rfl ?_
    refine g_aald10 C (cl_7_3 (cl_8_2 h0)) dX8_keep_70 (fun g3 => ?_)
    refine g_getr C 3 1 Fx5 (ca_10 (cl_7_3 (cl_8_2 h0)) g3) (by decide) rfl rfl q_60 dX8_keep_71 ?_
    refine g_iload_n C dX8_keep_74 2 rfl rfl ?_
    refine g_iload C dX8_keep_75 6 rfl ?_
    refine g_iast (n := 6) C (cl_5_3 (ca_10 (cl_7_3 (cl_8_2 h0)) g3)) dX8_keep_77 (fun m4 => ?_)
    refine g_aload_n C dX8_keep_78 0 rfl rfl ?_
    refine g_getr C 2 83 Fx8 h0 (by decide) rfl rfl q_308 dX8_keep_79 ?_
    refine g_iload_n C dX8_keep_82 3 rfl rfl ?_
    refine g_iconst C (0 : Int32) dX8_keep_83 rfl ?_
    refine g_callVv C cv_X7_pass (ct_X7_pass (a0 + 83) x3 (0 : Int32) (cl_8_2 h0) m4) q_685 (cl_8_2 h0) (by decide) rfl rfl (Nat.le_of_ble_eq_true rfl) dX8_keep_84 (fun r5 m6 => ?_)
    refine g_aload_n C dX8_keep_87 0 rfl rfl ?_
    refine g_getr C 2 83 Fx8 h0 (by decide) rfl rfl q_308 dX8_keep_88 ?_
    refine g_getr C 3 2 Fx7 (cl_8_2 h0) (by decide) rfl rfl q_133 dX8_keep_91 ?_
    refine g_iload_n C dX8_keep_94 1 rfl rfl ?_
    refine g_aald10 C (cl_7_3 (cl_8_2 h0)) dX8_keep_95 (fun g7 => ?_)
    refine g_geti C 2 Fx5 (ca_10 (cl_7_3 (cl_8_2 h0)) g7) (by decide) rfl rfl q_57 dX8_keep_96 ?_
    refine g_iload C dX8_keep_99 5 rfl ?_
    refine g_icmp_le C 122 dX8_keep_101 (by decide) (fun _ => ?_) (fun _ => ?_)
    · refine g_sub [0, 1, 2, 3, 4, 5, 6] rfl ?_
      exact s_X8_keep_J122 C Rr hk44 a0 x1 x2 x3 x4 x5 x6 h0 m6
    · refine g_aload_n C dX8_keep_104 0 rfl rfl ?_
      refine g_getr C 2 83 Fx8 h0 (by decide) rfl rfl q_308 dX8_keep_105 ?_
      refine g_getr C 3 2 Fx7 (cl_8_2 h0) (by decide) rfl rfl q_133 dX8_keep_108 ?_
      refine g_iload_n C dX8_keep_111 1 rfl rfl ?_
      refine g_aald10 C (cl_7_3 (cl_8_2 h0)) dX8_keep_112 (fun g8 => ?_)
      refine g_geti C 2 Fx5 (ca_10 (cl_7_3 (cl_8_2 h0)) g8) (by decide) rfl rfl q_57 dX8_keep_113 ?_
      refine g_bnd (fun y9 => ?_)
      refine g_istore C dX8_keep_116 (by decide) rfl ?_
      refine g_iload C dX8_keep_118 6 rfl ?_
      refine g_istore C dX8_keep_120 (by decide) rfl ?_
      refine g_sub [2, 3, 4, 5, 0, 1, 6] rfl ?_
      exact s_X8_keep_J122 C Rr hk44 a0 x1 x2 x3 x6 y9 x6 h0 m6
theorem s_X8_keep_L44 {K : KT}  (C : Cx K cX8_keep RX8 7 7) (Rr : Rx K (some .int))    : ∀ (n : Nat) (a0 : Nat) (x1 : Int32) (x2 : Int32) (x3 : Int32) (x4 : Int32) (x5 : Int32) (x6 : Int32) (h0 : tg a0 = 8) (m0 : Mem), G K 44 [(0, .ref (kf K a0)), (1, .int x1), (2, .int x2), (3, .int x3), (4, .int x4), (5, .int x5), (6, .int x6)] [] m0 (X8_keep_L44 n a0 x1 x2 x3 x4 x5 x6 m0) := by
  intro n
  induction n with
  | zero => intros; exact g_none
  | succ n ih =>
    intro a0 x1 x2 x3 x4 x5 x6 h0 m0
    exact s_X8_keep_L44B C Rr  ih a0 x1 x2 x3 x4 x5 x6 h0 m0
set_option maxHeartbeats 2000000 in
theorem s_X8_keep {K : KT}  (C : Cx K cX8_keep RX8 7 7) (Rr : Rx K (some .int))  (a0 : Nat) (x1 : Int32) (x2 : Int32) (x3 : Int32) (h0 : tg a0 = 8) (m0 : Mem) : G K 0 [(0, .ref (kf K a0)), (1, .int x1), (2, .int x2), (3, .int x3)] [] m0 (f_X8_keep a0 x1 x2 x3 m0) := by
  unfold f_X8_keep
  refine g_aload_n C dX8_keep_0 0 rfl rfl ?_
  refine g_getr C 0 1 Fx8 h0 (by decide) rfl rfl q_306 dX8_keep_1 ?_
  refine g_iload_n C dX8_keep_4 1 rfl rfl ?_
  refine g_callVi C cv_X7_hasShop (ct_X7_hasShop (a0 + 1) x1 (cl_8_0 h0) m0) q_366 (cl_8_0 h0) (by decide) rfl rfl (Nat.le_of_ble_eq_true rfl) dX8_keep_5 (fun r1 m2 => ?_)
  refine g_if_eq C 28 dX8_keep_8 (by decide) (fun _ => ?_) (fun _ => ?_)
  · refine g_sub [0] rfl ?_
    exact s_X8_keep_J28 C Rr a0 h0 m2
  · refine g_iload_n C dX8_keep_11 2 rfl rfl ?_
    refine g_callSi C cv_X8_isGood q_339 (ct_X8_isGood x2  m2) q_338 (by decide) rfl rfl (Nat.le_of_ble_eq_true rfl) dX8_keep_12 (fun r3 m4 => ?_)
    refine g_if_eq C 28 dX8_keep_15 (by decide) (fun _ => ?_) (fun _ => ?_)
    · refine g_sub [0] rfl ?_
      exact s_X8_keep_J28 C Rr a0 h0 m4
    · refine g_iload_n C dX8_keep_18 3 rfl rfl ?_
      refine g_iconst C (1 : Int32) dX8_keep_19 rfl ?_
      refine g_bipush C (20 : Int32) dX8_keep_20 rfl ?_
      refine g_callSi C cv_X8_within q_342 (ct_X8_within x3 (1 : Int32) (20 : Int32)  m4) q_341 (by decide) rfl rfl (Nat.le_of_ble_eq_true rfl) dX8_keep_22 (fun r5 m6 => ?_)
      refine g_if_ne C 34 dX8_keep_25 (by decide) (fun _ => ?_) (fun _ => ?_)
      · refine g_iconst C (0 : Int32) dX8_keep_34 rfl ?_
        refine g_istore C dX8_keep_35 (by decide) rfl ?_
        refine g_ldc (v := (-1000000 : Int32)) C q_733 dX8_keep_37 ?_
        refine g_istore C dX8_keep_39 (by decide) rfl ?_
        refine g_iconst C (0 : Int32) dX8_keep_41 rfl ?_
        refine g_istore C dX8_keep_42 (by decide) rfl ?_
        refine g_sub [3, 4, 5, 6, 2, 1, 0] rfl ?_
        exact s_X8_keep_L44 C Rr FU a0 x1 x2 x3 (0 : Int32) (-1000000 : Int32) (0 : Int32) h0 m6
      · refine g_sub [0] rfl ?_
        exact s_X8_keep_J28 C Rr a0 h0 m6
theorem ct_X8_keep {Ω : OT} (a0 : Nat) (x1 : Int32) (x2 : Int32) (x3 : Int32) (h0 : tg a0 = 8) (m0 : Mem) : Ct Ω yX8_keep cX8_keep 7 (some .int) 7 [.ref (oF Ω a0), .int x1, .int x2, .int x3] m0 (f_X8_keep a0 x1 x2 x3 m0) := by
  refine Ct_of (by decide) (Nat.le_of_ble_eq_true rfl) ?_
  intro K hK C Rr
  subst hK
  exact s_X8_keep C Rr  a0 x1 x2 x3 h0 m0
def X8_range_J20   (a0 : Nat) (m0 : Mem) : Res :=
  cal (f_X8_error a0 (1 : Int32) m0) (fun r1 m2 =>
  some (r1, m2))
def X8_range_J135  (k35 : Nat → Int32 → Int32 → Int32 → Int32 → Int32 → Mem → Res) (a0 : Nat) (x1 : Int32) (x2 : Int32) (x3 : Int32) (x4 : Int32) (x5 : Int32) (m0 : Mem) : Res :=
  bnd (x5 + (1 : Int32)) (fun y1 =>
  k35 a0 x1 x2 x3 x4 y1 m0)
def X8_range_J128  (k35 : Nat → Int32 → Int32 → Int32 → Int32 → Int32 → Mem → Res) (a0 : Nat) (x1 : Int32) (x2 : Int32) (x5 : Int32) (x6 : Int32) (m0 : Mem) : Res :=
  X8_range_J135 k35 a0 x1 x2 x5 x6 x5 m0
def X8_range_J107  (k35 : Nat → Int32 → Int32 → Int32 → Int32 → Int32 → Mem → Res) (a0 : Nat) (x1 : Int32) (x2 : Int32) (x3 : Int32) (x4 : Int32) (x5 : Int32) (x6 : Int32) (xs0 : Int32) (m0 : Mem) : Res :=
  (if x4 < x6 then
  X8_range_J128 k35 a0 x1 x2 x5 x6 m0
  else
  (if x6 = x4 then
  (if xs0 = 0 then
  X8_range_J135 k35 a0 x1 x2 x3 x4 x5 m0
  else
  X8_range_J128 k35 a0 x1 x2 x5 x6 m0)
  else
  X8_range_J135 k35 a0 x1 x2 x3 x4 x5 m0))
def X8_range_L35B  (k35 : Nat → Int32 → Int32 → Int32 → Int32 → Int32 → Mem → Res) (a0 : Nat) (x1 : Int32) (x2 : Int32) (x3 : Int32) (x4 : Int32) (x5 : Int32) (m0 : Mem) : Res :=
  (if (63 : Int32) < x5 then
  some (x3, m0)
  else
  cal (f_X7_copyFrom (a0 + 83) (a0 + 1) m0) (fun r1 m2 =>
  gd (inb x1 6) (
  cal (f_X5_keepOnly (((a0 + 83) + 2) + 5 + 3 * x1.toNatClampNeg) x5 m2) (fun r4 m5 =>
  cal (f_X7_pass (a0 + 83) x2 (0 : Int32) m5) (fun r6 m7 =>
  gd (inb x1 6) (
  bnd (m7 (((a0 + 83) + 2) + 5 + 3 * x1.toNatClampNeg) 2) (fun y9 =>
  cal (f_J6_bitCount_0f7a4 x5 m7) (fun r10 m11 =>
  cal (f_J6_bitCount_0f7a4 x3 m11) (fun r12 m13 =>
  (if r12 ≤ r10 then
  X8_range_J107 k35 a0 x1 x2 x3 x4 x5 y9 (0 : Int32) m13
  else
  X8_range_J107 k35 a0 x1 x2 x3 x4 x5 y9 (1 : Int32) m13))))))))))
def X8_range_L35   : Nat → Nat → Int32 → Int32 → Int32 → Int32 → Int32 → Mem → Res
  | 0 => fun _ _ _ _ _ _ _ => none
  | n + 1 => X8_range_L35B (X8_range_L35 n)
def f_X8_range  (a0 : Nat) (x1 : Int32) (x2 : Int32) (m0 : Mem) : Res :=
  cal (f_X7_hasShop (a0 + 1) x1 m0) (fun r1 m2 =>
  (if r1 = 0 then
  X8_range_J20 a0 m2
  else
  cal (f_X8_within x2 (1 : Int32) (5 : Int32) m2) (fun r3 m4 =>
  (if r3 = 0 then
  X8_range_J20 a0 m4
  else
  X8_range_L35 FU a0 x1 x2 (0 : Int32) (-1000000 : Int32) (0 : Int32) m4))))
set_option maxHeartbeats 2000000 in
theorem s_X8_range_J20 {K : KT}  (C : Cx K cX8_range RX8 8 7) (Rr : Rx K (some .int))    (a0 : Nat) (h0 : tg a0 = 8) (m0 : Mem) : G K 20 [(0, .ref (kf K a0))] [] m0 (X8_range_J20 a0 m0) := by
  unfold X8_range_J20
  refine g_aload_n C dX8_range_20 0 rfl rfl ?_
  refine g_iconst C (1 : Int32) dX8_range_21 rfl ?_
  refine g_callVi C cv_X8_error (ct_X8_error a0 (1 : Int32) h0 m0) q_344 h0 (by decide) rfl rfl (Nat.le_of_ble_eq_true rfl) dX8_range_22 (fun r1 m2 => ?_)
  exact g_iret C Rr dX8_range_25
set_option maxHeartbeats 2000000 in
theorem s_X8_range_J135 {K : KT}  (C : Cx K cX8_range RX8 8 7) (Rr : Rx K (some .int))  {k35 : Nat → Int32 → Int32 → Int32 → Int32 → Int32 → Mem → Res} (hk35 : ∀ (a0 : Nat) (x1 : Int32) (x2 : Int32) (x3 : Int32) (x4 : Int32) (x5 : Int32) (h0 : tg a0 = 8) (m0 : Mem), G K 35 [(0, .ref (kf K a0)), (1, .int x1), (2, .int x2), (3, .int x3), (4, .int x4), (5, .int x5)] [] m0 (k35 a0 x1 x2 x3 x4 x5 m0)) (a0 : Nat) (x1 : Int32) (x2 : Int32) (x3 : Int32) (x4 : Int32) (x5 : Int32) (h0 : tg a0 = 8) (m0 : Mem) : G K 135 [(0, .ref (kf K a0)), (1, .int x1), (2, .int x2), (3, .int x3), (4, .int x4), (5, .int x5)] [] m0 (X8_range_J135 k35 a0 x1 x2 x3 x4 x5 m0) := by
  unfold X8_range_J135
  refine g_iinc (k := 5) C dX8_range_135 rfl (w := (1 : Int32)) rfl (by decide) (fun v_ => [(5, .int v_), (0, .ref (kf K a0)), (1, .int x1), (2, .int x2), (3, .int x3), (4, .int x4)]) (fun _ => rfl) (fun y1 => ?_)
  refine g_goto C 35 dX8_range_138 (by decide) ?_
  refine g_sub [1, 2, 3, 4, 5, 0] rfl ?_
  exact hk35 a0 x1 x2 x3 x4 y1 h0 m0
set_option maxHeartbeats 2000000 in
theorem s_X8_range_J128 {K : KT}  (C : Cx K cX8_range RX8 8 7) (Rr : Rx K (some .int))  {k35 : Nat → Int32 → Int32 → Int32 → Int32 → Int32 → Mem → Res} (hk35 : ∀ (a0 : Nat) (x1 : Int32) (x2 : Int32) (x3 : Int32) (x4 : Int32) (x5 : Int32) (h0 : tg a0 = 8) (m0 : Mem), G K 35 [(0, .ref (kf K a0)), (1, .int x1), (2, .int x2), (3, .int x3), (4, .int x4), (5, .int x5)] [] m0 (k35 a0 x1 x2 x3 x4 x5 m0)) (a0 : Nat) (x1 : Int32) (x2 : Int32) (x5 : Int32) (x6 : Int32) (h0 : tg a0 = 8) (m0 : Mem) : G K 128 [(0, .ref (kf K a0)), (1, .int x1), (2, .int x2), (5, .int x5), (6, .int x6)] [] m0 (X8_range_J128 k35 a0 x1 x2 x5 x6 m0) := by
  unfold X8_range_J128
  refine g_iload C dX8_range_128 4 rfl ?_
  refine g_istore C dX8_range_130 (by decide) rfl ?_
  refine g_iload C dX8_range_132 4 rfl ?_
  refine g_istore_n C dX8_range_134 rfl (by decide) rfl ?_
  refine g_sub [2, 3, 4, 0, 1, 5] rfl ?_
  exact s_X8_range_J135 C Rr hk35 a0 x1 x2 x5 x6 x5 h0 m0
set_option maxHeartbeats 2000000 in
theorem s_X8_range_J107 {K : KT}  (C : Cx K cX8_range RX8 8 7) (Rr : Rx K (some .int))  {k35 : Nat → Int32 → Int32 → Int32 → Int32 → Int32 → Mem → Res} (hk35 : ∀ (a0 : Nat) (x1 : Int32) (x2 : Int32) (x3 : Int32) (x4 : Int32) (x5 : Int32) (h0 : tg a0 = 8) (m0 : Mem), G K 35 [(0, .ref (kf K a0)), (1, .int x1), (2, .int x2), (3, .int x3), (4, .int x4), (5, .int x5)] [] m0 (k35 a0 x1 x2 x3 x4 x5 m0)) (a0 : Nat) (x1 : Int32) (x2 : Int32) (x3 : Int32) (x4 : Int32) (x5 : Int32) (x6 : Int32) (xs0 : Int32) (h0 : tg a0 = 8) (m0 : Mem) : G K 107 [(0, .ref (kf K a0)), (1, .int x1), (2, .int x2), (3, .int x3), (4, .int x4), (5, .int x5), (6, .int x6)] [.int xs0] m0 (X8_range_J107 k35 a0 x1 x2 x3 x4 x5 x6 xs0 m0) := by
  unfold X8_range_J107
  refine g_istore C dX8_range_107 (by decide) rfl ?_
  refine g_iload C dX8_range_109 7 rfl ?_
  refine g_iload C dX8_range_111 5 rfl ?_
  refine g_icmp_gt C 128 dX8_range_113 (by decide) (fun _ => ?_) (fun _ => ?_)
  · refine g_sub [1, 2, 3, 6, 7] rfl ?_
    exact s_X8_range_J128 C Rr hk35 a0 x1 x2 x5 x6 h0 m0
  · refine g_iload C dX8_range_116 7 rfl ?_
    refine g_iload C dX8_range_118 5 rfl ?_
    refine g_icmp_ne C 135 dX8_range_120 (by decide) (fun _ => ?_) (fun _ => ?_)
    · refine g_sub [1, 2, 3, 4, 5, 6] rfl ?_
      exact s_X8_range_J135 C Rr hk35 a0 x1 x2 x3 x4 x5 h0 m0
    · refine g_iload C dX8_range_123 0 rfl ?_
      refine g_if_eq C 135 dX8_range_125 (by decide) (fun _ => ?_) (fun _ => ?_)
      · refine g_sub [1, 2, 3, 4, 5, 6] rfl ?_
        exact s_X8_range_J135 C Rr hk35 a0 x1 x2 x3 x4 x5 h0 m0
      · refine g_sub [1, 2, 3, 6, 7] rfl ?_
        exact s_X8_range_J128 C Rr hk35 a0 x1 x2 x5 x6 h0 m0
set_option maxHeartbeats 2000000 in
theorem s_X8_range_L35B {K : KT}  (C : Cx K cX8_range RX8 8 7) (Rr : Rx K (some .int))  {k35 : Nat → Int32 → Int32 → Int32 → Int32 → Int32 → Mem → Res} (hk35 : ∀ (a0 : Nat) (x1 : Int32) (x2 : Int32) (x3 : Int32) (x4 : Int32) (x5 : Int32) (h0 : tg a0 = 8) (m0 : Mem), G K 35 [(0, .ref (kf K a0)), (1, .int x1), (2, .int x2), (3, .int x3), (4, .int x4), (5, .int x5)] [] m0 (k35 a0 x1 x2 x3 x4 x5 m0)) (a0 : Nat) (x1 : Int32) (x2 : Int32) (x3 : Int32) (x4 : Int32) (x5 : Int32) (h0 : tg a0 = 8) (m0 : Mem) : G K 35 [(0, .ref (kf K a0)), (1, .int x1), (2, .int x2), (3, .int x3), (4, .int x4), (5, .int x5)] [] m0 (X8_range_L35B k35 a0 x1 x2 x3 x4 x5 m0) := by
  unfold X8_range_L35B
  refine g_iload C dX8_range_35 5 rfl ?_
  refine g_bipush C (63 : Int32) dX8_range_37 rfl ?_
  refine g_icmp_gt C 141 dX8_range_39 (by decide) (fun _ => ?_) (fun _ => ?_)
  · refine g_iload_n C dX8_range_141 3 rfl rfl ?_
    exact g_iret C Rr dX8_range_142
  · refine g_aload_n C dX8_range_42 0 rfl rfl ?_
    refine g_getr C 2 83 Fx8 h0 (by decide) rfl rfl q_308 dX8_range_43 ?_
    refine g_aload_n C dX8_range_46 0 rfl rfl ?_
    refine g_getr C 0 1 Fx8 h0 (by decide) rfl rfl q_306 dX8_range_47 ?_
    refine g_callVv C cv_X7_copyFrom (ct_X7_copyFrom (a0 + 83) (a0 + 1) (cl_8_2 h0) (cl_8_0 h0) m0) q_714 (cl_8_2 h0) (by decide) rfl rfl (Nat.le_of_ble_eq_true rfl) dX8_range_50 (fun r1 m2 => ?_)
    refine g_aload_n C dX8_range_53 0 rfl rfl ?_
    refine g_getr C 2 83 Fx8 h0 (by decide) rfl rfl q_308 dX8_range_54 ?_
    refine g_getr C 3 2 Fx7 (cl_8_2 h0) (by decide) rfl rfl q_133 dX8_range_57 ?_
    refine g_iload_n C dX8_range_60 1 rfl rfl ?_
    refine g_aald10 C (cl_7_3 (cl_8_2 h0)) dX8_range_61 (fun g3 => ?_)
    refine g_iload C dX8_range_62 5 rfl ?_
    refine g_callVv C cv_X5_keepOnly (ct_X5_keepOnly (((a0 + 83) + 2) + 5 + 3 * x1.toNatClampNeg) x5 (ca_10 (cl_7_3 (cl_8_2 h0)) g3) m2) q_738 (ca_10 (cl_7_3 (cl_8_2 h0)) g3) (by decide) rfl rfl (Nat.le_of_ble_eq_true rfl) dX8_range_64 (fun r4 m5 => ?_)
    refine g_aload_n C dX8_range_67 0 rfl rfl ?_
    refine g_getr C 2 83 Fx8 h0 (by decide) rfl rfl q_308 dX8_range_68 ?_
    refine g_iload_n C dX8_range_71 2 rfl rfl ?_
    refine g_iconst C (0 : Int32) dX8_range_72 rfl ?_
    refine g_callVv C cv_X7_pass (ct_X7_pass (a0 + 83) x2 (0 : Int32) (cl_8_2 h0) m5) q_685 (cl_8_2 h0) (by decide) rfl rfl (Nat.le_of_ble_eq_true rfl) dX8_range_73 (fun r6 m7 => ?_)
    refine g_aload_n C dX8_range_76 0 rfl rfl ?_
    refine g_getr C 2 83 Fx8 h0 (by decide) rfl rfl q_308 dX8_range_77 ?_
    refine g_getr C 3 2 Fx7 (cl_8_2 h0) (by decide) rfl rfl q_133 dX8_range_80 ?_
    refine g_iload_n C dX8_range_83 1 rfl rfl ?_
    refine g_aald10 C (cl_7_3 (cl_8_2 h0)) dX8_range_84 (fun g8 => ?_)
    refine g_geti C 2 Fx5 (ca_10 (cl_7_3 (cl_8_2 h0)) g8) (by decide) rfl rfl q_57 dX8_range_85 ?_
    refine g_bnd (fun y9 => ?_)
    refine g_istore C dX8_range_88 (by decide) rfl ?_
    refine g_iload C dX8_range_90 6 rfl ?_
    refine g_callSi C cv_J6_bitCount_0f7a4 q_697 (ct_J6_bitCount_0f7a4 x5  m7) q_742 (by decide) rfl rfl (Nat.le_of_ble_eq_true rfl) dX8_range_92 (fun r10 m11 => ?_)
    refine g_iload_n C dX8_range_95 4 rfl rfl ?_
    refine g_callSi C cv_J6_bitCount_0f7a4 q_697 (ct_J6_bitCount_0f7a4 x3  m11) q_742 (by decide) rfl rfl (Nat.le_of_ble_eq_true rfl) dX8_range_96 (fun r12 m13 => ?_)
    refine g_icmp_ge C 106 dX8_range_99 (by decide) (fun _ => ?_) (fun _ => ?_)
    · refine g_iconst C (0 : Int32) dX8_range_106 rfl ?_
      refine g_sub [1, 2, 3, 4, 5, 6, 0] rfl ?_
      exact s_X8_range_J107 C Rr hk35 a0 x1 x2 x3 x4 x5 y9 (0 : Int32) h0 m13
    · refine g_iconst C (1 : Int32) dX8_range_102 rfl ?_
      refine g_goto C 107 dX8_range_103 (by decide) ?_
      refine g_sub [1, 2, 3, 4, 5, 6, 0] rfl ?_
      exact s_X8_range_J107 C Rr hk35 a0 x1 x2 x3 x4 x5 y9 (1 : Int32) h0 m13
theorem s_X8_range_L35 {K : KT}  (C : Cx K cX8_range RX8 8 7) (Rr : Rx K (some .int))    : ∀ (n : Nat) (a0 : Nat) (x1 : Int32) (x2 : Int32) (x3 : Int32) (x4 : Int32) (x5 : Int32) (h0 : tg a0 = 8) (m0 : Mem), G K 35 [(0, .ref (kf K a0)), (1, .int x1), (2, .int x2), (3, .int x3), (4, .int x4), (5, .int x5)] [] m0 (X8_range_L35 n a0 x1 x2 x3 x4 x5 m0) := by
  intro n
  induction n with
  | zero => intros; exact g_none
  | succ n ih =>
    intro a0 x1 x2 x3 x4 x5 h0 m0
    exact s_X8_range_L35B C Rr  ih a0 x1 x2 x3 x4 x5 h0 m0
set_option maxHeartbeats 2000000 in
theorem s_X8_range {K : KT}  (C : Cx K cX8_range RX8 8 7) (Rr : Rx K (some .int))  (a0 : Nat) (x1 : Int32) (x2 : Int32) (h0 : tg a0 = 8) (m0 : Mem) : G K 0 [(0, .ref (kf K a0)), (1, .int x1), (2, .int x2)] [] m0 (f_X8_range a0 x1 x2 m0) := by
  unfold f_X8_range
  refine g_aload_n C dX8_range_0 0 rfl rfl ?_
  refine g_getr C 0 1 Fx8 h0 (by decide) rfl rfl q_306 dX8_range_1 ?_
  refine g_iload_n C dX8_range_4 1 rfl rfl ?_
  refine g_callVi C cv_X7_hasShop (ct_X7_hasShop (a0 + 1) x1 (cl_8_0 h0) m0) q_366 (cl_8_0 h0) (by decide) rfl rfl (Nat.le_of_ble_eq_true rfl) dX8_range_5 (fun r1 m2 => ?_)
  refine g_if_eq C 20 dX8_range_8 (by decide) (fun _ => ?_) (fun _ => ?_)
  · refine g_sub [0] rfl ?_
    exact s_X8_range_J20 C Rr a0 h0 m2
  · refine g_iload_n C dX8_range_11 2 rfl rfl ?_
    refine g_iconst C (1 : Int32) dX8_range_12 rfl ?_
    refine g_iconst C (5 : Int32) dX8_range_13 rfl ?_
    refine g_callSi C cv_X8_within q_342 (ct_X8_within x2 (1 : Int32) (5 : Int32)  m2) q_341 (by decide) rfl rfl (Nat.le_of_ble_eq_true rfl) dX8_range_14 (fun r3 m4 => ?_)
    refine g_if_ne C 26 dX8_range_17 (by decide) (fun _ => ?_) (fun _ => ?_)
    · refine g_iconst C (0 : Int32) dX8_range_26 rfl ?_
      refine g_istore_n C dX8_range_27 rfl (by decide) rfl ?_
      refine g_ldc (v := (-1000000 : Int32)) C q_733 dX8_range_28 ?_
      refine g_istore C dX8_range_30 (by decide) rfl ?_
      refine g_iconst C (0 : Int32) dX8_range_32 rfl ?_
      refine g_istore C dX8_range_33 (by decide) rfl ?_
      refine g_sub [3, 4, 5, 2, 1, 0] rfl ?_
      exact s_X8_range_L35 C Rr FU a0 x1 x2 (0 : Int32) (-1000000 : Int32) (0 : Int32) h0 m4
    · refine g_sub [0] rfl ?_
      exact s_X8_range_J20 C Rr a0 h0 m4
theorem ct_X8_range {Ω : OT} (a0 : Nat) (x1 : Int32) (x2 : Int32) (h0 : tg a0 = 8) (m0 : Mem) : Ct Ω yX8_range cX8_range 8 (some .int) 7 [.ref (oF Ω a0), .int x1, .int x2] m0 (f_X8_range a0 x1 x2 m0) := by
  refine Ct_of (by decide) (Nat.le_of_ble_eq_true rfl) ?_
  intro K hK C Rr
  subst hK
  exact s_X8_range C Rr  a0 x1 x2 h0 m0
def X8_turn_J21   (a0 : Nat) (m0 : Mem) : Res :=
  cal (f_X8_error a0 (1 : Int32) m0) (fun r1 m2 =>
  some (r1, m2))
def X8_turn_J120  (k36 : Nat → Int32 → Int32 → Int32 → Int32 → Int32 → Mem → Res) (a0 : Nat) (x1 : Int32) (x2 : Int32) (x3 : Int32) (x4 : Int32) (x5 : Int32) (m0 : Mem) : Res :=
  bnd (x5 + (1 : Int32)) (fun y1 =>
  k36 a0 x1 x2 x3 x4 y1 m0)
def X8_turn_L36B  (k36 : Nat → Int32 → Int32 → Int32 → Int32 → Int32 → Mem → Res) (a0 : Nat) (x1 : Int32) (x2 : Int32) (x3 : Int32) (x4 : Int32) (x5 : Int32) (m0 : Mem) : Res :=
  (if (m0 (a0 + 1) 4) ≤ x5 then
  some (x3, m0)
  else
  cal (f_X7_copyFrom (a0 + 83) (a0 + 1) m0) (fun r1 m2 =>
  cal (f_X7_turnFrom (a0 + 83) (a0 + 1) x5 m2) (fun r3 m4 =>
  cal (f_X7_pass (a0 + 83) x2 (0 : Int32) m4) (fun r5 m6 =>
  gd (!((m6 (a0 + 1) 4) == 0)) (
  gd (inb (irm (x1 + x5) (m6 (a0 + 1) 4)) 6) (
  bnd (m6 (((a0 + 83) + 2) + 5 + 3 * (irm (x1 + x5) (m6 (a0 + 1) 4)).toNatClampNeg) 2) (fun y8 =>
  (if y8 ≤ x4 then
  X8_turn_J120 k36 a0 x1 x2 x3 x4 x5 m6
  else
  X8_turn_J120 k36 a0 x1 x2 x5 y8 x5 m6))))))))
def X8_turn_L36   : Nat → Nat → Int32 → Int32 → Int32 → Int32 → Int32 → Mem → Res
  | 0 => fun _ _ _ _ _ _ _ => none
  | n + 1 => X8_turn_L36B (X8_turn_L36 n)
def f_X8_turn  (a0 : Nat) (x1 : Int32) (x2 : Int32) (m0 : Mem) : Res :=
  cal (f_X7_hasShop (a0 + 1) x1 m0) (fun r1 m2 =>
  (if r1 = 0 then
  X8_turn_J21 a0 m2
  else
  cal (f_X8_within x2 (1 : Int32) (20 : Int32) m2) (fun r3 m4 =>
  (if r3 = 0 then
  X8_turn_J21 a0 m4
  else
  X8_turn_L36 FU a0 x1 x2 (0 : Int32) (-1000000 : Int32) (0 : Int32) m4))))
set_option maxHeartbeats 2000000 in
theorem s_X8_turn_J21 {K : KT}  (C : Cx K cX8_turn RX8 7 7) (Rr : Rx K (some .int))    (a0 : Nat) (h0 : tg a0 = 8) (m0 : Mem) : G K 21 [(0, .ref (kf K a0))] [] m0 (X8_turn_J21 a0 m0) := by
  unfold X8_turn_J21
  refine g_aload_n C dX8_turn_21 0 rfl rfl ?_
  refine g_iconst C (1 : Int32) dX8_turn_22 rfl ?_
  refine g_callVi C cv_X8_error (ct_X8_error a0 (1 : Int32) h0 m0) q_344 h0 (by decide) rfl rfl (Nat.le_of_ble_eq_true rfl) dX8_turn_23 (fun r1 m2 => ?_)
  exact g_iret C Rr dX8_turn_26
set_option maxHeartbeats 2000000 in
theorem s_X8_turn_J120 {K : KT}  (C : Cx K cX8_turn RX8 7 7) (Rr : Rx K (some .int))  {k36 : Nat → Int32 → Int32 → Int32 → Int32 → Int32 → Mem → Res} (hk36 : ∀ (a0 : Nat) (x1 : Int32) (x2 : Int32) (x3 : Int32) (x4 : Int32) (x5 : Int32) (h0 : tg a0 = 8) (m0 : Mem), G K 36 [(0, .ref (kf K a0)), (1, .int x1), (2, .int x2), (3, .int x3), (4, .int x4), (5, .int x5)] [] m0 (k36 a0 x1 x2 x3 x4 x5 m0)) (a0 : Nat) (x1 : Int32) (x2 : Int32) (x3 : Int32) (x4 : Int32) (x5 : Int32) (h0 : tg a0 = 8) (m0 : Mem) : G K 120 [(0, .ref (kf K a0)), (1, .int x1), (2, .int x2), (3, .int x3), (4, .int x4), (5, .int x5)] [] m0 (X8_turn_J120 k36 a0 x1 x2 x3 x4 x5 m0) := by
  unfold X8_turn_J120
  refine g_iinc (k := 5) C dX8_turn_120 rfl (w := (1 : Int32)) rfl (by decide) (fun v_ => [(5, .int v_), (0, .ref (kf K a0)), (1, .int x1), (2, .int x2), (3, .int x3), (4, .int x4)]) (fun _ => rfl) (fun y1 => ?_)
  refine g_goto C 36 dX8_turn_123 (by decide) ?_
  refine g_sub [1, 2, 3, 4, 5, 0] rfl ?_
  exact hk36 a0 x1 x2 x3 x4 y1 h0 m0
set_option maxHeartbeats 2000000 in
theorem s_X8_turn_L36B {K : KT}  (C : Cx K cX8_turn RX8 7 7) (Rr : Rx K (some .int))  {k36 : Nat → Int32 → Int32 → Int32 → Int32 → Int32 → Mem → Res} (hk36 : ∀ (a0 : Nat) (x1 : Int32) (x2 : Int32) (x3 : Int32) (x4 : Int32) (x5 : Int32) (h0 : tg a0 = 8) (m0 : Mem), G K 36 [(0, .ref (kf K a0)), (1, .int x1), (2, .int x2), (3, .int x3), (4, .int x4), (5, .int x5)] [] m0 (k36 a0 x1 x2 x3 x4 x5 m0)) (a0 : Nat) (x1 : Int32) (x2 : Int32) (x3 : Int32) (x4 : Int32) (x5 : Int32) (h0 : tg a0 = 8) (m0 : Mem) : G K 36 [(0, .ref (kf K a0)), (1, .int x1), (2, .int x2), (3, .int x3), (4, .int x4), (5, .int x5)] [] m0 (X8_turn_L36B k36 a0 x1 x2 x3 x4 x5 m0) := by
  unfold X8_turn_L36B
  refine g_iload C dX8_turn_36 5 rfl ?_
  refine g_aload_n C dX8_turn_38 0 rfl rfl ?_
  refine g_getr C 0 1 Fx8 h0 (by decide) rfl rfl q_306 dX8_turn_39 ?_
  refine g_geti C 4 Fx7 (cl_8_0 h0) (by decide) rfl rfl q_136 dX8_turn_42 ?_
  refine g_icmp_ge C 126 dX8_turn_45 (by decide) (fun _ => ?_) (fun _ => ?_)
  · refine g_iload_n C dX8_turn_126 3 rfl rfl ?_
    exact g_iret C Rr dX8_turn_127
  · refine g_aload_n C dX8_turn_48 0 rfl rfl ?_
    refine g_getr C 2 83 Fx8 h0 (by decide) rfl rfl q_308 dX8_turn_49 ?_
    refine g_aload_n C dX8_turn_52 0 rfl rfl ?_
    refine g_getr C 0 1 Fx8 h0 (by decide) rfl rfl q_306 dX8_turn_53 ?_
    refine g_callVv C cv_X7_copyFrom (ct_X7_copyFrom (a0 + 83) (a0 + 1) (cl_8_2 h0) (cl_8_0 h0) m0) q_714 (cl_8_2 h0) (by decide) rfl rfl (Nat.le_of_ble_eq_true rfl) dX8_turn_56 (fun r1 m2 => ?_)
    refine g_aload_n C dX8_turn_59 0 rfl rfl ?_
    refine g_getr C 2 83 Fx8 h0 (by decide) rfl rfl q_308 dX8_turn_60 ?_
    refine g_aload_n C dX8_turn_63 0 rfl rfl ?_
    refine g_getr C 0 1 Fx8 h0 (by decide) rfl rfl q_306 dX8_turn_64 ?_
    refine g_iload C dX8_turn_67 5 rfl ?_
    refine g_callVv C cv_X7_turnFrom (ct_X7_turnFrom (a0 + 83) (a0 + 1) x5 (cl_8_2 h0) (cl_8_0 h0) m2) q_747 (cl_8_2 h0) (by decide) rfl rfl (Nat.le_of_ble_eq_true rfl) dX8_turn_69 (fun r3 m4 => ?_)
    refine g_aload_n C dX8_turn_72 0 rfl rfl ?_
    refine g_getr C 2 83 Fx8 h0 (by decide) rfl rfl q_308 dX8_turn_73 ?_
    refine g_iload_n C dX8_turn_76 2 rfl rfl ?_
    refine g_iconst C (0 : Int32) dX8_turn_77 rfl ?_
    refine g_callVv C cv_X7_pass (ct_X7_pass (a0 + 83) x2 (0 : Int32) (cl_8_2 h0) m4) q_685 (cl_8_2 h0) (by decide) rfl rfl (Nat.le_of_ble_eq_true rfl) dX8_turn_78 (fun r5 m6 => ?_)
    refine g_aload_n C dX8_turn_81 0 rfl rfl ?_
    refine g_getr C 2 83 Fx8 h0 (by decide) rfl rfl q_308 dX8_turn_82 ?_
    refine g_getr C 3 2 Fx7 (cl_8_2 h0) (by decide) rfl rfl q_133 dX8_turn_85 ?_
    refine g_iload_n C dX8_turn_88 1 rfl rfl ?_
    refine g_iload C dX8_turn_89 5 rfl ?_
    refine g_iadd C dX8_turn_91 ?_
    refine g_aload_n C dX8_turn_92 0 rfl rfl ?_
    refine g_getr C 0 1 Fx8 h0 (by decide) rfl rfl q_306 dX8_turn_93 ?_
    refine g_geti C 4 Fx7 (cl_8_0 h0) (by decide) rfl rfl q_136 dX8_turn_96 ?_
    refine g_irem C dX8_turn_99 (fun _ => ?_)
    refine g_aald10 C (cl_7_3 (cl_8_2 h0)) dX8_turn_100 (fun g7 => ?_)
    refine g_geti C 2 Fx5 (ca_10 (cl_7_3 (cl_8_2 h0)) g7) (by decide) rfl rfl q_57 dX8_turn_101 ?_
    refine g_bnd (fun y8 => ?_)
    refine g_istore C dX8_turn_104 (by decide) rfl ?_
    refine g_iload C dX8_turn_106 0 rfl ?_
    refine g_iload C dX8_turn_108 5 rfl ?_
    refine g_icmp_le C 120 dX8_turn_110 (by decide) (fun _ => ?_) (fun _ => ?_)
    · refine g_sub [1, 2, 3, 4, 5, 6] rfl ?_
      exact s_X8_turn_J120 C Rr hk36 a0 x1 x2 x3 x4 x5 h0 m6
    · refine g_iload C dX8_turn_113 0 rfl ?_
      refine g_istore C dX8_turn_115 (by decide) rfl ?_
      refine g_iload C dX8_turn_117 6 rfl ?_
      refine g_istore_n C dX8_turn_119 rfl (by decide) rfl ?_
      refine g_sub [3, 4, 5, 0, 1, 6] rfl ?_
      exact s_X8_turn_J120 C Rr hk36 a0 x1 x2 x5 y8 x5 h0 m6
theorem s_X8_turn_L36 {K : KT}  (C : Cx K cX8_turn RX8 7 7) (Rr : Rx K (some .int))    : ∀ (n : Nat) (a0 : Nat) (x1 : Int32) (x2 : Int32) (x3 : Int32) (x4 : Int32) (x5 : Int32) (h0 : tg a0 = 8) (m0 : Mem), G K 36 [(0, .ref (kf K a0)), (1, .int x1), (2, .int x2), (3, .int x3), (4, .int x4), (5, .int x5)] [] m0 (X8_turn_L36 n a0 x1 x2 x3 x4 x5 m0) := by
  intro n
  induction n with
  | zero => intros; exact g_none
  | succ n ih =>
    intro a0 x1 x2 x3 x4 x5 h0 m0
    exact s_X8_turn_L36B C Rr  ih a0 x1 x2 x3 x4 x5 h0 m0
set_option maxHeartbeats 2000000 in
theorem s_X8_turn {K : KT}  (C : Cx K cX8_turn RX8 7 7) (Rr : Rx K (some .int))  (a0 : Nat) (x1 : Int32) (x2 : Int32) (h0 : tg a0 = 8) (m0 : Mem) : G K 0 [(0, .ref (kf K a0)), (1, .int x1), (2, .int x2)] [] m0 (f_X8_turn a0 x1 x2 m0) := by
  unfold f_X8_turn
  refine g_aload_n C dX8_turn_0 0 rfl rfl ?_
  refine g_getr C 0 1 Fx8 h0 (by decide) rfl rfl q_306 dX8_turn_1 ?_
  refine g_iload_n C dX8_turn_4 1 rfl rfl ?_
  refine g_callVi C cv_X7_hasShop (ct_X7_hasShop (a0 + 1) x1 (cl_8_0 h0) m0) q_366 (cl_8_0 h0) (by decide) rfl rfl (Nat.le_of_ble_eq_true rfl) dX8_turn_5 (fun r1 m2 => ?_)
  refine g_if_eq C 21 dX8_turn_8 (by decide) (fun _ => ?_) (fun _ => ?_)
  · refine g_sub [0] rfl ?_
    exact s_X8_turn_J21 C Rr a0 h0 m2
  · refine g_iload_n C dX8_turn_11 2 rfl rfl ?_
    refine g_iconst C (1 : Int32) dX8_turn_12 rfl ?_
    refine g_bipush C (20 : Int32) dX8_turn_13 rfl ?_
    refine g_callSi C cv_X8_within q_342 (ct_X8_within x2 (1 : Int32) (20 : Int32)  m2) q_341 (by decide) rfl rfl (Nat.le_of_ble_eq_true rfl) dX8_turn_15 (fun r3 m4 => ?_)
    refine g_if_ne C 27 dX8_turn_18 (by decide) (fun _ => ?_) (fun _ => ?_)
    · refine g_iconst C (0 : Int32) dX8_turn_27 rfl ?_
      refine g_istore_n C dX8_turn_28 rfl (by decide) rfl ?_
      refine g_ldc (v := (-1000000 : Int32)) C q_733 dX8_turn_29 ?_
      refine g_istore C dX8_turn_31 (by decide) rfl ?_
      refine g_iconst C (0 : Int32) dX8_turn_33 rfl ?_
      refine g_istore C dX8_turn_34 (by decide) rfl ?_
      refine g_sub [3, 4, 5, 2, 1, 0] rfl ?_
      exact s_X8_turn_L36 C Rr FU a0 x1 x2 (0 : Int32) (-1000000 : Int32) (0 : Int32) h0 m4
    · refine g_sub [0] rfl ?_
      exact s_X8_turn_J21 C Rr a0 h0 m4
theorem ct_X8_turn {Ω : OT} (a0 : Nat) (x1 : Int32) (x2 : Int32) (h0 : tg a0 = 8) (m0 : Mem) : Ct Ω yX8_turn cX8_turn 7 (some .int) 7 [.ref (oF Ω a0), .int x1, .int x2] m0 (f_X8_turn a0 x1 x2 m0) := by
  refine Ct_of (by decide) (Nat.le_of_ble_eq_true rfl) ?_
  intro K hK C Rr
  subst hK
  exact s_X8_turn C Rr  a0 x1 x2 h0 m0
def X8_out_J18   (a0 : Nat) (m0 : Mem) : Res :=
  cal (f_X8_error a0 (1 : Int32) m0) (fun r1 m2 =>
  some (r1, m2))
def X8_out_J59   (a0 : Nat) (m0 : Mem) : Res :=
  cal (f_X8_error a0 (3 : Int32) m0) (fun r1 m2 =>
  some (r1, m2))
def f_X8_out  (a0 : Nat) (x1 : Int32) (x2 : Int32) (m0 : Mem) : Res :=
  cal (f_X7_hasShop (a0 + 1) x1 m0) (fun r1 m2 =>
  (if r1 = 0 then
  X8_out_J18 a0 m2
  else
  cal (f_X8_isGood x2 m2) (fun r3 m4 =>
  (if r3 = 0 then
  X8_out_J18 a0 m4
  else
  cal (f_X7_leftOf (a0 + 1) x1 m4) (fun r5 m6 =>
  (if r5 < 0 then
  X8_out_J59 a0 m6
  else
  (if r5 = x1 then
  X8_out_J59 a0 m6
  else
  gd (inb r5 6) (
  gd (inb x2 6) (
  (if (m6 ((((a0 + 1) + 2) + 5 + 3 * r5.toNatClampNeg) + 2) x2.toNatClampNeg) = 0 then
  X8_out_J59 a0 m6
  else
  cal (f_X7_copyFrom (a0 + 83) (a0 + 1) m6) (fun r8 m9 =>
  cal (f_X7_allGoAlong (a0 + 83) m9) (fun r10 m11 =>
  gd (inb x1 6) (
  bnd (m11 (((a0 + 83) + 2) + 5 + 3 * x1.toNatClampNeg) 2) (fun y13 =>
  cal (f_X7_copyFrom (a0 + 83) (a0 + 1) m11) (fun r14 m15 =>
  cal (f_X7_buyOut (a0 + 83) x1 r5 x2 m15) (fun r16 m17 =>
  cal (f_X7_allGoAlong (a0 + 83) m17) (fun r18 m19 =>
  gd (inb x1 6) (
  some ((m19 (((a0 + 83) + 2) + 5 + 3 * x1.toNatClampNeg) 2) - y13, m19)))))))))))))))))))
set_option maxHeartbeats 2000000 in
theorem s_X8_out_J18 {K : KT}  (C : Cx K cX8_out RX8 5 6) (Rr : Rx K (some .int))    (a0 : Nat) (h0 : tg a0 = 8) (m0 : Mem) : G K 18 [(0, .ref (kf K a0))] [] m0 (X8_out_J18 a0 m0) := by
  unfold X8_out_J18
  refine g_aload_n C dX8_out_18 0 rfl rfl ?_
  refine g_iconst C (1 : Int32) dX8_out_19 rfl ?_
  refine g_callVi C cv_X8_error (ct_X8_error a0 (1 : Int32) h0 m0) q_344 h0 (by decide) rfl rfl (Nat.le_of_ble_eq_true rfl) dX8_out_20 (fun r1 m2 => ?_)
  exact g_iret C Rr dX8_out_23
set_option maxHeartbeats 2000000 in
theorem s_X8_out_J59 {K : KT}  (C : Cx K cX8_out RX8 5 6) (Rr : Rx K (some .int))    (a0 : Nat) (h0 : tg a0 = 8) (m0 : Mem) : G K 59 [(0, .ref (kf K a0))] [] m0 (X8_out_J59 a0 m0) := by
  unfold X8_out_J59
  refine g_aload_n C dX8_out_59 0 rfl rfl ?_
  refine g_iconst C (3 : Int32) dX8_out_60 rfl ?_
  refine g_callVi C cv_X8_error (ct_X8_error a0 (3 : Int32) h0 m0) q_344 h0 (by decide) rfl rfl (Nat.le_of_ble_eq_true rfl) dX8_out_61 (fun r1 m2 => ?_)
  exact g_iret C Rr dX8_out_64
set_option maxHeartbeats 2000000 in
theorem s_X8_out {K : KT}  (C : Cx K cX8_out RX8 5 6) (Rr : Rx K (some .int))  (a0 : Nat) (x1 : Int32) (x2 : Int32) (h0 : tg a0 = 8) (m0 : Mem) : G K 0 [(0, .ref (kf K a0)), (1, .int x1), (2, .int x2)] [] m0 (f_X8_out a0 x1 x2 m0) := by
  unfold f_X8_out
  refine g_aload_n C dX8_out_0 0 rfl rfl ?_
  refine g_getr C 0 1 Fx8 h0 (by decide) rfl rfl q_306 dX8_out_1 ?_
  refine g_iload_n C dX8_out_4 1 rfl rfl ?_
  refine g_callVi C cv_X7_hasShop (ct_X7_hasShop (a0 + 1) x1 (cl_8_0 h0) m0) q_366 (cl_8_0 h0) (by decide) rfl rfl (Nat.le_of_ble_eq_true rfl) dX8_out_5 (fun r1 m2 => ?_)
  refine g_if_eq C 18 dX8_out_8 (by decide) (fun _ => ?_) (fun _ => ?_)
  · refine g_sub [0] rfl ?_
    exact s_X8_out_J18 C Rr a0 h0 m2
  · refine g_iload_n C dX8_out_11 2 rfl rfl ?_
    refine g_callSi C cv_X8_isGood q_339 (ct_X8_isGood x2  m2) q_338 (by decide) rfl rfl (Nat.le_of_ble_eq_true rfl) dX8_out_12 (fun r3 m4 => ?_)
    refine g_if_ne C 24 dX8_out_15 (by decide) (fun _ => ?_) (fun _ => ?_)
    · refine g_aload_n C dX8_out_24 0 rfl rfl ?_
      refine g_getr C 0 1 Fx8 h0 (by decide) rfl rfl q_306 dX8_out_25 ?_
      refine g_iload_n C dX8_out_28 1 rfl rfl ?_
      refine g_callVi C cv_X7_leftOf (ct_X7_leftOf (a0 + 1) x1 (cl_8_0 h0) m4) q_755 (cl_8_0 h0) (by decide) rfl rfl (Nat.le_of_ble_eq_true rfl) dX8_out_29 (fun r5 m6 => ?_)
      refine g_istore_n C dX8_out_32 rfl (by decide) rfl ?_
      refine g_iload_n C dX8_out_33 0 rfl rfl ?_
      refine g_if_lt C 59 dX8_out_34 (by decide) (fun _ => ?_) (fun _ => ?_)
      · refine g_sub [1] rfl ?_
        exact s_X8_out_J59 C Rr a0 h0 m6
      · refine g_iload_n C dX8_out_37 0 rfl rfl ?_
        refine g_iload_n C dX8_out_38 2 rfl rfl ?_
        refine g_icmp_eq C 59 dX8_out_39 (by decide) (fun _ => ?_) (fun _ => ?_)
        · refine g_sub [1] rfl ?_
          exact s_X8_out_J59 C Rr a0 h0 m6
        · refine g_aload_n C dX8_out_42 1 rfl rfl ?_
          refine g_getr C 0 1 Fx8 h0 (by decide) rfl rfl q_306 dX8_out_43 ?_
          refine g_getr C 3 2 Fx7 (cl_8_0 h0) (by decide) rfl rfl q_133 dX8_out_46 ?_
          refine g_iload_n C dX8_out_49 0 rfl rfl ?_
          refine g_aald10 C (cl_7_3 (cl_8_0 h0)) dX8_out_50 (fun g7 => ?_)
          refine g_getr C 4 2 Fx5 (ca_10 (cl_7_3 (cl_8_0 h0)) g7) (by decide) rfl rfl q_64 dX8_out_51 ?_
          refine g_iload_n C dX8_out_54 3 rfl rfl ?_
          refine g_iald (n := 6) C (cl_5_4 (ca_10 (cl_7_3 (cl_8_0 h0)) g7)) dX8_out_55 (fun _ => ?_)
          refine g_if_ne C 65 dX8_out_56 (by decide) (fun _ => ?_) (fun _ => ?_)
          · refine g_aload_n C dX8_out_65 1 rfl rfl ?_
            refine g_getr C 2 83 Fx8 h0 (by decide) rfl rfl q_308 dX8_out_66 ?_
            refine g_aload_n C dX8_out_69 1 rfl rfl ?_
            refine g_getr C 0 1 Fx8 h0 (by decide) rfl rfl q_306 dX8_out_70 ?_
            refine g_callVv C cv_X7_copyFrom (ct_X7_copyFrom (a0 + 83) (a0 + 1) (cl_8_2 h0) (cl_8_0 h0) m6) q_714 (cl_8_2 h0) (by decide) rfl rfl (Nat.le_of_ble_eq_true rfl) dX8_out_73 (fun r8 m9 => ?_)
            refine g_aload_n C dX8_out_76 1 rfl rfl ?_
            refine g_getr C 2 83 Fx8 h0 (by decide) rfl rfl q_308 dX8_out_77 ?_
            refine g_callVv C cv_X7_allGoAlong (ct_X7_allGoAlong (a0 + 83) (cl_8_2 h0) m9) q_756 (cl_8_2 h0) (by decide) rfl rfl (Nat.le_of_ble_eq_true rfl) dX8_out_80 (fun r10 m11 => ?_)
            refine g_aload_n C dX8_out_83 1 rfl rfl ?_
            refine g_getr C 2 83 Fx8 h0 (by decide) rfl rfl q_308 dX8_out_84 ?_
            refine g_getr C 3 2 Fx7 (cl_8_2 h0) (by decide) rfl rfl q_133 dX8_out_87 ?_
            refine g_iload_n C dX8_out_90 2 rfl rfl ?_
            refine g_aald10 C (cl_7_3 (cl_8_2 h0)) dX8_out_91 (fun g12 => ?_)
            refine g_geti C 2 Fx5 (ca_10 (cl_7_3 (cl_8_2 h0)) g12) (by decide) rfl rfl q_57 dX8_out_92 ?_
            refine g_bnd (fun y13 => ?_)
            refine g_istore C dX8_out_95 (by decide) rfl ?_
            refine g_aload_n C dX8_out_97 2 rfl rfl ?_
            refine g_getr C 2 83 Fx8 h0 (by decide) rfl rfl q_308 dX8_out_98 ?_
            refine g_aload_n C dX8_out_101 2 rfl rfl ?_
            refine g_getr C 0 1 Fx8 h0 (by decide) rfl rfl q_306 dX8_out_102 ?_
            refine g_callVv C cv_X7_copyFrom (ct_X7_copyFrom (a0 + 83) (a0 + 1) (cl_8_2 h0) (cl_8_0 h0) m11) q_714 (cl_8_2 h0) (by decide) rfl rfl (Nat.le_of_ble_eq_true rfl) dX8_out_105 (fun r14 m15 => ?_)
            refine g_aload_n C dX8_out_108 2 rfl rfl ?_
            refine g_getr C 2 83 Fx8 h0 (by decide) rfl rfl q_308 dX8_out_109 ?_
            refine g_iload_n C dX8_out_112 3 rfl rfl ?_
            refine g_iload_n C dX8_out_113 1 rfl rfl ?_
            refine g_iload_n C dX8_out_114 4 rfl rfl ?_
            refine g_callVv C cv_X7_buyOut (ct_X7_buyOut (a0 + 83) x1 r5 x2 (cl_8_2 h0) m15) q_760 (cl_8_2 h0) (by decide) rfl rfl (Nat.le_of_ble_eq_true rfl) dX8_out_115 (fun r16 m17 => ?_)
            refine g_aload_n C dX8_out_118 2 rfl rfl ?_
            refine g_getr C 2 83 Fx8 h0 (by decide) rfl rfl q_308 dX8_out_119 ?_
            refine g_callVv C cv_X7_allGoAlong (ct_X7_allGoAlong (a0 + 83) (cl_8_2 h0) m17) q_756 (cl_8_2 h0) (by decide) rfl rfl (Nat.le_of_ble_eq_true rfl) dX8_out_122 (fun r18 m19 => ?_)
            refine g_aload_n C dX8_out_125 2 rfl rfl ?_
            refine g_getr C 2 83 Fx8 h0 (by decide) rfl rfl q_308 dX8_out_126 ?_
            refine g_getr C 3 2 Fx7 (cl_8_2 h0) (by decide) rfl rfl q_133 dX8_out_129 ?_
            refine g_iload_n C dX8_out_132 3 rfl rfl ?_
            refine g_aald10 C (cl_7_3 (cl_8_2 h0)) dX8_out_133 (fun g20 => ?_)
            refine g_geti C 2 Fx5 (ca_10 (cl_7_3 (cl_8_2 h0)) g20) (by decide) rfl rfl q_57 dX8_out_134 ?_
            refine g_iload C dX8_out_137 0 rfl ?_
            refine g_isub C dX8_out_139 ?_
            exact g_iret C Rr dX8_out_140
          · refine g_sub [1] rfl ?_
            exact s_X8_out_J59 C Rr a0 h0 m6
    · refine g_sub [0] rfl ?_
      exact s_X8_out_J18 C Rr a0 h0 m4
theorem ct_X8_out {Ω : OT} (a0 : Nat) (x1 : Int32) (x2 : Int32) (h0 : tg a0 = 8) (m0 : Mem) : Ct Ω yX8_out cX8_out 5 (some .int) 6 [.ref (oF Ω a0), .int x1, .int x2] m0 (f_X8_out a0 x1 x2 m0) := by
  refine Ct_of (by decide) (Nat.le_of_ble_eq_true rfl) ?_
  intro K hK C Rr
  subst hK
  exact s_X8_out C Rr  a0 x1 x2 h0 m0
def X8_joined_J34   (a0 : Nat) (m0 : Mem) : Res :=
  cal (f_X8_error a0 (1 : Int32) m0) (fun r1 m2 =>
  some (r1, m2))
def f_X8_joined  (a0 : Nat) (x1 : Int32) (x2 : Int32) (m0 : Mem) : Res :=
  cal (f_X7_hasShop (a0 + 1) x1 m0) (fun r1 m2 =>
  (if r1 = 0 then
  X8_joined_J34 a0 m2
  else
  cal (f_X7_hasShop (a0 + 1) (x1 + (1 : Int32)) m2) (fun r3 m4 =>
  (if r3 = 0 then
  X8_joined_J34 a0 m4
  else
  cal (f_X8_within x2 (1 : Int32) (20 : Int32) m4) (fun r5 m6 =>
  (if r5 = 0 then
  X8_joined_J34 a0 m6
  else
  cal (f_X7_copyFrom (a0 + 83) (a0 + 1) m6) (fun r7 m8 =>
  cal (f_X7_pass (a0 + 83) x2 (0 : Int32) m8) (fun r9 m10 =>
  gd (inb x1 6) (
  gd (inb (x1 + (1 : Int32)) 6) (
  bnd ((m10 (((a0 + 83) + 2) + 5 + 3 * x1.toNatClampNeg) 2) + (m10 (((a0 + 83) + 2) + 5 + 3 * (x1 + (1 : Int32)).toNatClampNeg) 2)) (fun y13 =>
  cal (f_X7_copyFrom (a0 + 83) (a0 + 1) m10) (fun r14 m15 =>
  cal (f_X7_joinNext (a0 + 83) x1 m15) (fun r16 m17 =>
  cal (f_X7_pass (a0 + 83) x2 (0 : Int32) m17) (fun r18 m19 =>
  gd (inb x1 6) (
  some ((m19 (((a0 + 83) + 2) + 5 + 3 * x1.toNatClampNeg) 2) - y13, m19))))))))))))))))
set_option maxHeartbeats 2000000 in
theorem s_X8_joined_J34 {K : KT}  (C : Cx K cX8_joined RX8 4 7) (Rr : Rx K (some .int))    (a0 : Nat) (h0 : tg a0 = 8) (m0 : Mem) : G K 34 [(0, .ref (kf K a0))] [] m0 (X8_joined_J34 a0 m0) := by
  unfold X8_joined_J34
  refine g_aload_n C dX8_joined_34 0 rfl rfl ?_
  refine g_iconst C (1 : Int32) dX8_joined_35 rfl ?_
  refine g_callVi C cv_X8_error (ct_X8_error a0 (1 : Int32) h0 m0) q_344 h0 (by decide) rfl rfl (Nat.le_of_ble_eq_true rfl) dX8_joined_36 (fun r1 m2 => ?_)
  exact g_iret C Rr dX8_joined_39
set_option maxHeartbeats 2000000 in
theorem s_X8_joined {K : KT}  (C : Cx K cX8_joined RX8 4 7) (Rr : Rx K (some .int))  (a0 : Nat) (x1 : Int32) (x2 : Int32) (h0 : tg a0 = 8) (m0 : Mem) : G K 0 [(0, .ref (kf K a0)), (1, .int x1), (2, .int x2)] [] m0 (f_X8_joined a0 x1 x2 m0) := by
  unfold f_X8_joined
  refine g_aload_n C dX8_joined_0 0 rfl rfl ?_
  refine g_getr C 0 1 Fx8 h0 (by decide) rfl rfl q_306 dX8_joined_1 ?_
  refine g_iload_n C dX8_joined_4 1 rfl rfl ?_
  refine g_callVi C cv_X7_hasShop (ct_X7_hasShop (a0 + 1) x1 (cl_8_0 h0) m0) q_366 (cl_8_0 h0) (by decide) rfl rfl (Nat.le_of_ble_eq_true rfl) dX8_joined_5 (fun r1 m2 => ?_)
  refine g_if_eq C 34 dX8_joined_8 (by decide) (fun _ => ?_) (fun _ => ?_)
  · refine g_sub [0] rfl ?_
    exact s_X8_joined_J34 C Rr a0 h0 m2
  · refine g_aload_n C dX8_joined_11 0 rfl rfl ?_
    refine g_getr C 0 1 Fx8 h0 (by decide) rfl rfl q_306 dX8_joined_12 ?_
    refine g_iload_n C dX8_joined_15 1 rfl rfl ?_
    refine g_iconst C (1 : Int32) dX8_joined_16 rfl ?_
    refine g_iadd C dX8_joined_17 ?_
    refine g_callVi C cv_X7_hasShop (ct_X7_hasShop (a0 + 1) (x1 + (1 : Int32)) (cl_8_0 h0) m2) q_366 (cl_8_0 h0) (by decide) rfl rfl (Nat.le_of_ble_eq_true rfl) dX8_joined_18 (fun r3 m4 => ?_)
    refine g_if_eq C 34 dX8_joined_21 (by decide) (fun _ => ?_) (fun _ => ?_)
    · refine g_sub [0] rfl ?_
      exact s_X8_joined_J34 C Rr a0 h0 m4
    · refine g_iload_n C dX8_joined_24 2 rfl rfl ?_
      refine g_iconst C (1 : Int32) dX8_joined_25 rfl ?_
      refine g_bipush C (20 : Int32) dX8_joined_26 rfl ?_
      refine g_callSi C cv_X8_within q_342 (ct_X8_within x2 (1 : Int32) (20 : Int32)  m4) q_341 (by decide) rfl rfl (Nat.le_of_ble_eq_true rfl) dX8_joined_28 (fun r5 m6 => ?_)
      refine g_if_ne C 40 dX8_joined_31 (by decide) (fun _ => ?_) (fun _ => ?_)
      · refine g_aload_n C dX8_joined_40 0 rfl rfl ?_
        refine g_getr C 2 83 Fx8 h0 (by decide) rfl rfl q_308 dX8_joined_41 ?_
        refine g_aload_n C dX8_joined_44 0 rfl rfl ?_
        refine g_getr C 0 1 Fx8 h0 (by decide) rfl rfl q_306 dX8_joined_45 ?_
        refine g_callVv C cv_X7_copyFrom (ct_X7_copyFrom (a0 + 83) (a0 + 1) (cl_8_2 h0) (cl_8_0 h0) m6) q_714 (cl_8_2 h0) (by decide) rfl rfl (Nat.le_of_ble_eq_true rfl) dX8_joined_48 (fun r7 m8 => ?_)
        refine g_aload_n C dX8_joined_51 0 rfl rfl ?_
        refine g_getr C 2 83 Fx8 h0 (by decide) rfl rfl q_308 dX8_joined_52 ?_
        refine g_iload_n C dX8_joined_55 2 rfl rfl ?_
        refine g_iconst C (0 : Int32) dX8_joined_56 rfl ?_
        refine g_callVv C cv_X7_pass (ct_X7_pass (a0 + 83) x2 (0 : Int32) (cl_8_2 h0) m8) q_685 (cl_8_2 h0) (by decide) rfl rfl (Nat.le_of_ble_eq_true rfl) dX8_joined_57 (fun r9 m10 => ?_)
        refine g_aload_n C dX8_joined_60 0 rfl rfl ?_
        refine g_getr C 2 83 Fx8 h0 (by decide) rfl rfl q_308 dX8_joined_61 ?_
        refine g_getr C 3 2 Fx7 (cl_8_2 h0) (by decide) rfl rfl q_133 dX8_joined_64 ?_
        refine g_iload_n C dX8_joined_67 1 rfl rfl ?_
        refine g_aald10 C (cl_7_3 (cl_8_2 h0)) dX8_joined_68 (fun g11 => ?_)
        refine g_geti C 2 Fx5 (ca_10 (cl_7_3 (cl_8_2 h0)) g11) (by decide) rfl rfl q_57 dX8_joined_69 ?_
        refine g_aload_n C dX8_joined_72 0 rfl rfl ?_
        refine g_getr C 2 83 Fx8 h0 (by decide) rfl rfl q_308 dX8_joined_73 ?_
        refine g_getr C 3 2 Fx7 (cl_8_2 h0) (by decide) rfl rfl q_133 dX8_joined_76 ?_
        refine g_iload_n C dX8_joined_79 1 rfl rfl ?_
        refine g_iconst C (1 : Int32) dX8_joined_80 rfl ?_
        refine g_iadd C dX8_joined_81 ?_
        refine g_aald10 C (cl_7_3 (cl_8_2 h0)) dX8_joined_82 (fun g12 => ?_)
        refine g_geti C 2 Fx5 (ca_10 (cl_7_3 (cl_8_2 h0)) g12) (by decide) rfl rfl q_57 dX8_joined_83 ?_
        refine g_iadd C dX8_joined_86 ?_
        refine g_bnd (fun y13 => ?_)
        refine g_istore_n C dX8_joined_87 rfl (by decide) rfl ?_
        refine g_aload_n C dX8_joined_88 1 rfl rfl ?_
        refine g_getr C 2 83 Fx8 h0 (by decide) rfl rfl q_308 dX8_joined_89 ?_
        refine g_aload_n C dX8_joined_92 1 rfl rfl ?_
        refine g_getr C 0 1 Fx8 h0 (by decide) rfl rfl q_306 dX8_joined_93 ?_
        refine g_callVv C cv_X7_copyFrom (ct_X7_copyFrom (a0 + 83) (a0 + 1) (cl_8_2 h0) (cl_8_0 h0) m10) q_714 (cl_8_2 h0) (by decide) rfl rfl (Nat.le_of_ble_eq_true rfl) dX8_joined_96 (fun r14 m15 => ?_)
        refine g_aload_n C dX8_joined_99 1 rfl rfl ?_
        refine g_getr C 2 83 Fx8 h0 (by decide) rfl rfl q_308 dX8_joined_100 ?_
        refine g_iload_n C dX8_joined_103 2 rfl rfl ?_
        refine g_callVv C cv_X7_joinNext (ct_X7_joinNext (a0 + 83) x1 (cl_8_2 h0) m15) q_765 (cl_8_2 h0) (by decide) rfl rfl (Nat.le_of_ble_eq_true rfl) dX8_joined_104 (fun r16 m17 => ?_)
        refine g_aload_n C dX8_joined_107 1 rfl rfl ?_
        refine g_getr C 2 83 Fx8 h0 (by decide) rfl rfl q_308 dX8_joined_108 ?_
        refine g_iload_n C dX8_joined_111 3 rfl rfl ?_
        refine g_iconst C (0 : Int32) dX8_joined_112 rfl ?_
        refine g_callVv C cv_X7_pass (ct_X7_pass (a0 + 83) x2 (0 : Int32) (cl_8_2 h0) m17) q_685 (cl_8_2 h0) (by decide) rfl rfl (Nat.le_of_ble_eq_true rfl) dX8_joined_113 (fun r18 m19 => ?_)
        refine g_aload_n C dX8_joined_116 1 rfl rfl ?_
        refine g_getr C 2 83 Fx8 h0 (by decide) rfl rfl q_308 dX8_joined_117 ?_
        refine g_getr C 3 2 Fx7 (cl_8_2 h0) (by decide) rfl rfl q_133 dX8_joined_120 ?_
        refine g_iload_n C dX8_joined_123 2 rfl rfl ?_
        refine g_aald10 C (cl_7_3 (cl_8_2 h0)) dX8_joined_124 (fun g20 => ?_)
        refine g_geti C 2 Fx5 (ca_10 (cl_7_3 (cl_8_2 h0)) g20) (by decide) rfl rfl q_57 dX8_joined_125 ?_
        refine g_iload_n C dX8_joined_128 0 rfl rfl ?_
        refine g_isub C dX8_joined_129 ?_
        exact g_iret C Rr dX8_joined_130
      · refine g_sub [0] rfl ?_
        exact s_X8_joined_J34 C Rr a0 h0 m6
theorem ct_X8_joined {Ω : OT} (a0 : Nat) (x1 : Int32) (x2 : Int32) (h0 : tg a0 = 8) (m0 : Mem) : Ct Ω yX8_joined cX8_joined 4 (some .int) 7 [.ref (oF Ω a0), .int x1, .int x2] m0 (f_X8_joined a0 x1 x2 m0) := by
  refine Ct_of (by decide) (Nat.le_of_ble_eq_true rfl) ?_
  intro K hK C Rr
  subst hK
  exact s_X8_joined C Rr  a0 x1 x2 h0 m0
def X8_walk_J104   (xs0 : Int32) (m0 : Mem) : Res :=
  some (xs0, m0)
def X8_walk_J91   (a0 : Nat) (x3 : Int32) (m0 : Mem) : Res :=
  (if x3 = 0 then
  X8_walk_J104 (0 : Int32) m0
  else
  cal (f_X8_error a0 (2 : Int32) m0) (fun r1 m2 =>
  X8_walk_J104 r1 m2))
def X8_walk_L35B  (k35 : Nat → Nat → Int32 → Int32 → Mem → Res) (a0 : Nat) (a2 : Nat) (x3 : Int32) (x4 : Int32) (m0 : Mem) : Res :=
  (if (m0 (a0 + 1) 4) ≤ x4 then
  X8_walk_J91 a0 x3 m0
  else
  (if x3 = 0 then
  X8_walk_J91 a0 x3 m0
  else
  cal (f_X7_placeOf (a0 + 1) (m0 a2 2) x4 m0) (fun r1 m2 =>
  cal (f_X7_mayGoods (a0 + 1) r1 m2) (fun r3 m4 =>
  bnd (x3 &&& (r3 ^^^ (-1 : Int32))) (fun y5 =>
  (if y5 = 0 then
  some (x4 + (1 : Int32), m4)
  else
  bnd (x4 + (1 : Int32)) (fun y6 =>
  k35 a0 a2 y5 y6 m4)))))))
def X8_walk_L35   : Nat → Nat → Nat → Int32 → Int32 → Mem → Res
  | 0 => fun _ _ _ _ _ => none
  | n + 1 => X8_walk_L35B (X8_walk_L35 n)
def f_X8_walk  (a0 : Nat) (x1 : Int32) (m0 : Mem) : Res :=
  cal (f_X7_hasCustomer (a0 + 1) x1 m0) (fun r1 m2 =>
  (if r1 = 0 then
  cal (f_X8_error a0 (1 : Int32) m2) (fun r5 m6 =>
  some (r5, m6))
  else
  gd (inb x1 10) (
  bnd (m2 (((a0 + 1) + 3) + 22 + 1 * x1.toNatClampNeg) 0) (fun y4 =>
  X8_walk_L35 FU a0 (((a0 + 1) + 3) + 22 + 1 * x1.toNatClampNeg) y4 (0 : Int32) m2))))
set_option maxHeartbeats 2000000 in
theorem s_X8_walk_J104 {K : KT}  (C : Cx K cX8_walk RX8 5 4) (Rr : Rx K (some .int))    (xs0 : Int32)  (m0 : Mem) : G K 104 [] [.int xs0] m0 (X8_walk_J104 xs0 m0) := by
  unfold X8_walk_J104
  exact g_iret C Rr dX8_walk_104
set_option maxHeartbeats 2000000 in
theorem s_X8_walk_J91 {K : KT}  (C : Cx K cX8_walk RX8 5 4) (Rr : Rx K (some .int))    (a0 : Nat) (x3 : Int32) (h0 : tg a0 = 8) (m0 : Mem) : G K 91 [(0, .ref (kf K a0)), (3, .int x3)] [] m0 (X8_walk_J91 a0 x3 m0) := by
  unfold X8_walk_J91
  refine g_iload_n C dX8_walk_91 1 rfl rfl ?_
  refine g_if_ne C 99 dX8_walk_92 (by decide) (fun _ => ?_) (fun _ => ?_)
  · refine g_aload_n C dX8_walk_99 0 rfl rfl ?_
    refine g_iconst C (2 : Int32) dX8_walk_100 rfl ?_
    refine g_callVi C cv_X8_error (ct_X8_error a0 (2 : Int32) h0 m0) q_344 h0 (by decide) rfl rfl (Nat.le_of_ble_eq_true rfl) dX8_walk_101 (fun r1 m2 => ?_)
    refine g_sub [] rfl ?_
    exact s_X8_walk_J104 C Rr r1 m2
  · refine g_iconst C (0 : Int32) dX8_walk_95 rfl ?_
    refine g_goto C 104 dX8_walk_96 (by decide) ?_
    refine g_sub [] rfl ?_
    exact s_X8_walk_J104 C Rr (0 : Int32) m0
set_option maxHeartbeats 2000000 in
theorem s_X8_walk_L35B {K : KT}  (C : Cx K cX8_walk RX8 5 4) (Rr : Rx K (some .int))  {k35 : Nat → Nat → Int32 → Int32 → Mem → Res} (hk35 : ∀ (a0 : Nat) (a2 : Nat) (x3 : Int32) (x4 : Int32) (h0 : tg a0 = 8) (h2 : tg a2 = 0) (m0 : Mem), G K 35 [(0, .ref (kf K a0)), (2, .ref (kf K a2)), (3, .int x3), (4, .int x4)] [] m0 (k35 a0 a2 x3 x4 m0)) (a0 : Nat) (a2 : Nat) (x3 : Int32) (x4 : Int32) (h0 : tg a0 = 8) (h2 : tg a2 = 0) (m0 : Mem) : G K 35 [(0, .ref (kf K a0)), (2, .ref (kf K a2)), (3, .int x3), (4, .int x4)] [] m0 (X8_walk_L35B k35 a0 a2 x3 x4 m0) := by
  unfold X8_walk_L35B
  refine g_iload C dX8_walk_35 3 rfl ?_
  refine g_aload_n C dX8_walk_37 0 rfl rfl ?_
  refine g_getr C 0 1 Fx8 h0 (by decide) rfl rfl q_306 dX8_walk_38 ?_
  refine g_geti C 4 Fx7 (cl_8_0 h0) (by decide) rfl rfl q_136 dX8_walk_41 ?_
  refine g_icmp_ge C 91 dX8_walk_44 (by decide) (fun _ => ?_) (fun _ => ?_)
  · refine g_sub [0, 2] rfl ?_
    exact s_X8_walk_J91 C Rr a0 x3 h0 m0
  · refine g_iload_n C dX8_walk_47 2 rfl rfl ?_
    refine g_if_eq C 91 dX8_walk_48 (by decide) (fun _ => ?_) (fun _ => ?_)
    · refine g_sub [0, 2] rfl ?_
      exact s_X8_walk_J91 C Rr a0 x3 h0 m0
    · refine g_iload_n C dX8_walk_51 2 rfl rfl ?_
      refine g_aload_n C dX8_walk_52 0 rfl rfl ?_
      refine g_getr C 0 1 Fx8 h0 (by decide) rfl rfl q_306 dX8_walk_53 ?_
      refine g_aload_n C dX8_walk_56 0 rfl rfl ?_
      refine g_getr C 0 1 Fx8 h0 (by decide) rfl rfl q_306 dX8_walk_57 ?_
      refine g_aload_n C dX8_walk_60 1 rfl rfl ?_
      refine g_geti C 2 Fx0 h2 (by decide) rfl rfl q_94 dX8_walk_61 ?_
      refine g_iload C dX8_walk_64 3 rfl ?_
      refine g_callVi C cv_X7_placeOf (ct_X7_placeOf (a0 + 1) (m0 a2 2) x4 (cl_8_0 h0) m0) q_779 (cl_8_0 h0) (by decide) rfl rfl (Nat.le_of_ble_eq_true rfl) dX8_walk_66 (fun r1 m2 => ?_)
      refine g_callVi C cv_X7_mayGoods (ct_X7_mayGoods (a0 + 1) r1 (cl_8_0 h0) m2) q_780 (cl_8_0 h0) (by decide) rfl rfl (Nat.le_of_ble_eq_true rfl) dX8_walk_69 (fun r3 m4 => ?_)
      refine g_iconst C (-1 : Int32) dX8_walk_72 rfl ?_
      refine g_ixor C dX8_walk_73 ?_
      refine g_iand C dX8_walk_74 ?_
      refine g_bnd (fun y5 => ?_)
      refine g_istore_n C dX8_walk_75 rfl (by decide) rfl ?_
      refine g_iload_n C dX8_walk_76 0 rfl rfl ?_
      refine g_if_ne C 85 dX8_walk_77 (by decide) (fun _ => ?_) (fun _ => ?_)
      · refine g_iinc (k := 3) C dX8_walk_85 rfl (w := (1 : Int32)) rfl (by decide) (fun v_ => [(4, .int v_), (3, .int y5), (0, .ref (kf K a0)), (2, .ref (kf K a2))]) (fun _ => rfl) (fun y6 => ?_)
        refine g_goto C 35 dX8_walk_88 (by decide) ?_
        refine g_sub [2, 3, 1, 0] rfl ?_
        exact hk35 a0 a2 y5 y6 h0 h2 m4
      · refine g_iload C dX8_walk_80 3 rfl ?_
        refine g_iconst C (1 : Int32) dX8_walk_82 rfl ?_
        refine g_iadd C dX8_walk_83 ?_
        exact g_iret C Rr dX8_walk_84
theorem s_X8_walk_L35 {K : KT}  (C : Cx K cX8_walk RX8 5 4) (Rr : Rx K (some .int))    : ∀ (n : Nat) (a0 : Nat) (a2 : Nat) (x3 : Int32) (x4 : Int32) (h0 : tg a0 = 8) (h2 : tg a2 = 0) (m0 : Mem), G K 35 [(0, .ref (kf K a0)), (2, .ref (kf K a2)), (3, .int x3), (4, .int x4)] [] m0 (X8_walk_L35 n a0 a2 x3 x4 m0) := by
  intro n
  induction n with
  | zero => intros; exact g_none
  | succ n ih =>
    intro a0 a2 x3 x4 h0 h2 m0
    exact s_X8_walk_L35B C Rr  ih a0 a2 x3 x4 h0 h2 m0
set_option maxHeartbeats 2000000 in
theorem s_X8_walk {K : KT}  (C : Cx K cX8_walk RX8 5 4) (Rr : Rx K (some .int))  (a0 : Nat) (x1 : Int32) (h0 : tg a0 = 8) (m0 : Mem) : G K 0 [(0, .ref (kf K a0)), (1, .int x1)] [] m0 (f_X8_walk a0 x1 m0) := by
  unfold f_X8_walk
  refine g_aload_n C dX8_walk_0 0 rfl rfl ?_
  refine g_getr C 0 1 Fx8 h0 (by decide) rfl rfl q_306 dX8_walk_1 ?_
  refine g_iload_n C dX8_walk_4 1 rfl rfl ?_
  refine g_callVi C cv_X7_hasCustomer (ct_X7_hasCustomer (a0 + 1) x1 (cl_8_0 h0) m0) q_463 (cl_8_0 h0) (by decide) rfl rfl (Nat.le_of_ble_eq_true rfl) dX8_walk_5 (fun r1 m2 => ?_)
  refine g_if_ne C 17 dX8_walk_8 (by decide) (fun _ => ?_) (fun _ => ?_)
  · refine g_aload_n C dX8_walk_17 0 rfl rfl ?_
    refine g_getr C 0 1 Fx8 h0 (by decide) rfl rfl q_306 dX8_walk_18 ?_
    refine g_getr C 5 3 Fx7 (cl_8_0 h0) (by decide) rfl rfl q_138 dX8_walk_21 ?_
    refine g_iload_n C dX8_walk_24 1 rfl rfl ?_
    refine g_aald11 C (cl_7_5 (cl_8_0 h0)) dX8_walk_25 (fun g3 => ?_)
    refine g_astore_n C dX8_walk_26 rfl (by decide) rfl ?_
    refine g_aload_n C dX8_walk_27 0 rfl rfl ?_
    refine g_geti C 0 Fx0 (ca_11 (cl_7_5 (cl_8_0 h0)) g3) (by decide) rfl rfl q_88 dX8_walk_28 ?_
    refine g_bnd (fun y4 => ?_)
    refine g_istore_n C dX8_walk_31 rfl (by decide) rfl ?_
    refine g_iconst C (0 : Int32) dX8_walk_32 rfl ?_
    refine g_istore C dX8_walk_33 (by decide) rfl ?_
    refine g_sub [3, 2, 1, 0] rfl ?_
    exact s_X8_walk_L35 C Rr FU a0 (((a0 + 1) + 3) + 22 + 1 * x1.toNatClampNeg) y4 (0 : Int32) h0 (ca_11 (cl_7_5 (cl_8_0 h0)) g3) m2
  · refine g_aload_n C dX8_walk_11 0 rfl rfl ?_
    refine g_iconst C (1 : Int32) dX8_walk_12 rfl ?_
    refine g_callVi C cv_X8_error (ct_X8_error a0 (1 : Int32) h0 m2) q_344 h0 (by decide) rfl rfl (Nat.le_of_ble_eq_true rfl) dX8_walk_13 (fun r5 m6 => ?_)
    exact g_iret C Rr dX8_walk_16
theorem ct_X8_walk {Ω : OT} (a0 : Nat) (x1 : Int32) (h0 : tg a0 = 8) (m0 : Mem) : Ct Ω yX8_walk cX8_walk 5 (some .int) 4 [.ref (oF Ω a0), .int x1] m0 (f_X8_walk a0 x1 m0) := by
  refine Ct_of (by decide) (Nat.le_of_ble_eq_true rfl) ?_
  intro K hK C Rr
  subst hK
  exact s_X8_walk C Rr  a0 x1 h0 m0
def X8_voice_J20   (a0 : Nat) (m0 : Mem) : Res :=
  cal (f_X8_error a0 (1 : Int32) m0) (fun r1 m2 =>
  some (r1, m2))
def X8_voice_J68   (xs0 : Int32) (m0 : Mem) : Res :=
  some (xs0, m0)
def f_X8_voice  (a0 : Nat) (x1 : Int32) (x2 : Int32) (x3 : Int32) (m0 : Mem) : Res :=
  cal (f_X7_hasShop (a0 + 1) x1 m0) (fun r1 m2 =>
  (if r1 = 0 then
  X8_voice_J20 a0 m2
  else
  cal (f_X8_within x2 (0 : Int32) (3 : Int32) m2) (fun r3 m4 =>
  (if r3 = 0 then
  X8_voice_J20 a0 m4
  else
  gd (inb x1 6) (
  cal (f_X6_speak (a0 + 128) (((a0 + 1) + 2) + 5 + 3 * x1.toNatClampNeg) x1 x2 x3 m4) (fun r6 m7 =>
  (if (m7 (a0 + 128) 2) = 0 then
  X8_voice_J68 r6 m7
  else
  cal (f_X8_error a0 (6 : Int32) m7) (fun r8 m9 =>
  X8_voice_J68 r8 m9))))))))
set_option maxHeartbeats 2000000 in
theorem s_X8_voice_J20 {K : KT}  (C : Cx K cX8_voice RX8 5 58) (Rr : Rx K (some .int))    (a0 : Nat) (h0 : tg a0 = 8) (m0 : Mem) : G K 20 [(0, .ref (kf K a0))] [] m0 (X8_voice_J20 a0 m0) := by
  unfold X8_voice_J20
  refine g_aload_n C dX8_voice_20 0 rfl rfl ?_
  refine g_iconst C (1 : Int32) dX8_voice_21 rfl ?_
  refine g_callVi C cv_X8_error (ct_X8_error a0 (1 : Int32) h0 m0) q_344 h0 (by decide) rfl rfl (Nat.le_of_ble_eq_true rfl) dX8_voice_22 (fun r1 m2 => ?_)
  exact g_iret C Rr dX8_voice_25
set_option maxHeartbeats 2000000 in
theorem s_X8_voice_J68 {K : KT}  (C : Cx K cX8_voice RX8 5 58) (Rr : Rx K (some .int))    (xs0 : Int32)  (m0 : Mem) : G K 68 [] [.int xs0] m0 (X8_voice_J68 xs0 m0) := by
  unfold X8_voice_J68
  exact g_iret C Rr dX8_voice_68
set_option maxHeartbeats 2000000 in
theorem s_X8_voice {K : KT}  (C : Cx K cX8_voice RX8 5 58) (Rr : Rx K (some .int))  (a0 : Nat) (x1 : Int32) (x2 : Int32) (x3 : Int32) (h0 : tg a0 = 8) (m0 : Mem) : G K 0 [(0, .ref (kf K a0)), (1, .int x1), (2, .int x2), (3, .int x3)] [] m0 (f_X8_voice a0 x1 x2 x3 m0) := by
  unfold f_X8_voice
  refine g_aload_n C dX8_voice_0 0 rfl rfl ?_
  refine g_getr C 0 1 Fx8 h0 (by decide) rfl rfl q_306 dX8_voice_1 ?_
  refine g_iload_n C dX8_voice_4 1 rfl rfl ?_
  refine g_callVi C cv_X7_hasShop (ct_X7_hasShop (a0 + 1) x1 (cl_8_0 h0) m0) q_366 (cl_8_0 h0) (by decide) rfl rfl (Nat.le_of_ble_eq_true rfl) dX8_voice_5 (fun r1 m2 => ?_)
  refine g_if_eq C 20 dX8_voice_8 (by decide) (fun _ => ?_) (fun _ => ?_)
  · refine g_sub [0] rfl ?_
    exact s_X8_voice_J20 C Rr a0 h0 m2
  · refine g_iload_n C dX8_voice_11 2 rfl rfl ?_
    refine g_iconst C (0 : Int32) dX8_voice_12 rfl ?_
    refine g_iconst C (3 : Int32) dX8_voice_13 rfl ?_
    refine g_callSi C cv_X8_within q_342 (ct_X8_within x2 (0 : Int32) (3 : Int32)  m2) q_341 (by decide) rfl rfl (Nat.le_of_ble_eq_true rfl) dX8_voice_14 (fun r3 m4 => ?_)
    refine g_if_ne C 26 dX8_voice_17 (by decide) (fun _ => ?_) (fun _ => ?_)
    · refine g_aload_n C dX8_voice_26 0 rfl rfl ?_
      refine g_getr C 5 128 Fx8 h0 (by decide) rfl rfl q_311 dX8_voice_27 ?_
      refine g_aload_n C dX8_voice_30 0 rfl rfl ?_
      refine g_getr C 0 1 Fx8 h0 (by decide) rfl rfl q_306 dX8_voice_31 ?_
      refine g_getr C 3 2 Fx7 (cl_8_0 h0) (by decide) rfl rfl q_133 dX8_voice_34 ?_
      refine g_iload_n C dX8_voice_37 1 rfl rfl ?_
      refine g_aald10 C (cl_7_3 (cl_8_0 h0)) dX8_voice_38 (fun g5 => ?_)
      refine g_iload_n C dX8_voice_39 1 rfl rfl ?_
      refine g_iload_n C dX8_voice_40 2 rfl rfl ?_
      refine g_iload_n C dX8_voice_41 3 rfl rfl ?_
      refine g_callVi C cv_X6_speak (ct_X6_speak (a0 + 128) (((a0 + 1) + 2) + 5 + 3 * x1.toNatClampNeg) x1 x2 x3 (cl_8_5 h0) (ca_10 (cl_7_3 (cl_8_0 h0)) g5) m4) q_785 (cl_8_5 h0) (by decide) rfl rfl (Nat.le_of_ble_eq_true rfl) dX8_voice_42 (fun r6 m7 => ?_)
      refine g_istore C dX8_voice_45 (by decide) rfl ?_
      refine g_aload_n C dX8_voice_47 1 rfl rfl ?_
      refine g_getr C 5 128 Fx8 h0 (by decide) rfl rfl q_311 dX8_voice_48 ?_
      refine g_geti C 2 Fx6 (cl_8_5 h0) (by decide) rfl rfl q_239 dX8_voice_51 ?_
      refine g_if_eq C 66 dX8_voice_54 (by decide) (fun _ => ?_) (fun _ => ?_)
      · refine g_iload C dX8_voice_66 0 rfl ?_
        refine g_sub [] rfl ?_
        exact s_X8_voice_J68 C Rr r6 m7
      · refine g_aload_n C dX8_voice_57 1 rfl rfl ?_
        refine g_bipush C (6 : Int32) dX8_voice_58 rfl ?_
        refine g_callVi C cv_X8_error (ct_X8_error a0 (6 : Int32) h0 m7) q_344 h0 (by decide) rfl rfl (Nat.le_of_ble_eq_true rfl) dX8_voice_60 (fun r8 m9 => ?_)
        refine g_goto C 68 dX8_voice_63 (by decide) ?_
        refine g_sub [] rfl ?_
        exact s_X8_voice_J68 C Rr r8 m9
    · refine g_sub [0] rfl ?_
      exact s_X8_voice_J20 C Rr a0 h0 m4
theorem ct_X8_voice {Ω : OT} (a0 : Nat) (x1 : Int32) (x2 : Int32) (x3 : Int32) (h0 : tg a0 = 8) (m0 : Mem) : Ct Ω yX8_voice cX8_voice 5 (some .int) 58 [.ref (oF Ω a0), .int x1, .int x2, .int x3] m0 (f_X8_voice a0 x1 x2 x3 m0) := by
  refine Ct_of (by decide) (Nat.le_of_ble_eq_true rfl) ?_
  intro K hK C Rr
  subst hK
  exact s_X8_voice C Rr  a0 x1 x2 x3 h0 m0
def f_X8_body  (a0 : Nat) (x1 : Int32) (m0 : Mem) : Res :=
  cal (f_X8_within x1 (0 : Int32) ((m0 (a0 + 128) 1) - (1 : Int32)) m0) (fun r1 m2 =>
  (if r1 = 0 then
  cal (f_X8_error a0 (2 : Int32) m2) (fun r3 m4 =>
  some (r3, m4))
  else
  gd (inb x1 30) (
  some (m2 ((a0 + 128) + 1) x1.toNatClampNeg, m2))))
set_option maxHeartbeats 2000000 in
theorem s_X8_body {K : KT}  (C : Cx K cX8_body RX8 2 2) (Rr : Rx K (some .int))  (a0 : Nat) (x1 : Int32) (h0 : tg a0 = 8) (m0 : Mem) : G K 0 [(0, .ref (kf K a0)), (1, .int x1)] [] m0 (f_X8_body a0 x1 m0) := by
  unfold f_X8_body
  refine g_iload_n C dX8_body_0 1 rfl rfl ?_
  refine g_iconst C (0 : Int32) dX8_body_1 rfl ?_
  refine g_aload_n C dX8_body_2 0 rfl rfl ?_
  refine g_getr C 5 128 Fx8 h0 (by decide) rfl rfl q_311 dX8_body_3 ?_
  refine g_geti C 1 Fx6 (cl_8_5 h0) (by decide) rfl rfl q_237 dX8_body_6 ?_
  refine g_iconst C (1 : Int32) dX8_body_9 rfl ?_
  refine g_isub C dX8_body_10 ?_
  refine g_callSi C cv_X8_within q_342 (ct_X8_within x1 (0 : Int32) ((m0 (a0 + 128) 1) - (1 : Int32))  m0) q_341 (by decide) rfl rfl (Nat.le_of_ble_eq_true rfl) dX8_body_11 (fun r1 m2 => ?_)
  refine g_if_ne C 23 dX8_body_14 (by decide) (fun _ => ?_) (fun _ => ?_)
  · refine g_aload_n C dX8_body_23 0 rfl rfl ?_
    refine g_getr C 5 128 Fx8 h0 (by decide) rfl rfl q_311 dX8_body_24 ?_
    refine g_getr C 0 1 Fx6 (cl_8_5 h0) (by decide) rfl rfl q_235 dX8_body_27 ?_
    refine g_iload_n C dX8_body_30 1 rfl rfl ?_
    refine g_iald (n := 30) C (cl_6_0 (cl_8_5 h0)) dX8_body_31 (fun _ => ?_)
    exact g_iret C Rr dX8_body_32
  · refine g_aload_n C dX8_body_17 0 rfl rfl ?_
    refine g_iconst C (2 : Int32) dX8_body_18 rfl ?_
    refine g_callVi C cv_X8_error (ct_X8_error a0 (2 : Int32) h0 m2) q_344 h0 (by decide) rfl rfl (Nat.le_of_ble_eq_true rfl) dX8_body_19 (fun r3 m4 => ?_)
    exact g_iret C Rr dX8_body_22
theorem ct_X8_body {Ω : OT} (a0 : Nat) (x1 : Int32) (h0 : tg a0 = 8) (m0 : Mem) : Ct Ω yX8_body cX8_body 2 (some .int) 2 [.ref (oF Ω a0), .int x1] m0 (f_X8_body a0 x1 m0) := by
  refine Ct_of (by decide) (Nat.le_of_ble_eq_true rfl) ?_
  intro K hK C Rr
  subst hK
  exact s_X8_body C Rr  a0 x1 h0 m0
def f_X8_isSheet  (x0 : Int32) (m0 : Mem) : Res :=
  cal (f_X8_within x0 (0 : Int32) (3 : Int32) m0) (fun r1 m2 =>
  gd (isb r1) (some (r1, m2)))
set_option maxHeartbeats 2000000 in
theorem s_X8_isSheet {K : KT}  (C : Cx K cX8_isSheet RX8 1 2) (Rr : Rx K (some .boolean))  (x0 : Int32)  (m0 : Mem) : G K 0 [(0, .int x0)] [] m0 (f_X8_isSheet x0 m0) := by
  unfold f_X8_isSheet
  refine g_iload_n C dX8_isSheet_0 0 rfl rfl ?_
  refine g_iconst C (0 : Int32) dX8_isSheet_1 rfl ?_
  refine g_iconst C (3 : Int32) dX8_isSheet_2 rfl ?_
  refine g_callSi C cv_X8_within q_342 (ct_X8_within x0 (0 : Int32) (3 : Int32)  m0) q_341 (by decide) rfl rfl (Nat.le_of_ble_eq_true rfl) dX8_isSheet_3 (fun r1 m2 => ?_)
  exact g_zret C Rr dX8_isSheet_6
theorem ct_X8_isSheet {Ω : OT} (x0 : Int32)  (m0 : Mem) : Ct Ω yX8_isSheet cX8_isSheet 1 (some .boolean) 2 [.int x0] m0 (f_X8_isSheet x0 m0) := by
  refine Ct_of (by decide) (Nat.le_of_ble_eq_true rfl) ?_
  intro K hK C Rr
  subst hK
  exact s_X8_isSheet C Rr  x0 m0
