def X8_sheet_J29   (a0 : Nat) (m0 : Mem) : Res :=
  cal (f_X8_error a0 (1 : Int32) m0) (fun r1 m2 =>
  some (r1, m2))
def X8_sheet_J81   (as0 : Nat) (xs1 : Int32) (xs2 : Int32) (m0 : Mem) : Res :=
  cal (f_X4_lay as0 xs1 xs2 m0) (fun r1 m2 =>
  some ((1 : Int32), m2))
def X8_sheet_J65   (a0 : Nat) (x1 : Int32) (x2 : Int32) (x3 : Int32) (m0 : Mem) : Res :=
  gd (inb x1 4) (
  (if x2 = 0 then
  X8_sheet_J81 ((a0 + 124) + 10 + 2 * x1.toNatClampNeg) x2 (0 : Int32) m0
  else
  X8_sheet_J81 ((a0 + 124) + 10 + 2 * x1.toNatClampNeg) x2 x3 m0))
def X8_sheet_J49   (a0 : Nat) (x1 : Int32) (x2 : Int32) (x3 : Int32) (m0 : Mem) : Res :=
  (if x2 = 0 then
  X8_sheet_J65 a0 x1 x2 x3 m0
  else
  (if x3 ≤ (24 : Int32) then
  X8_sheet_J65 a0 x1 x2 x3 m0
  else
  cal (f_X8_error a0 (1 : Int32) m0) (fun r1 m2 =>
  some (r1, m2))))
def X8_sheet_J35   (a0 : Nat) (x1 : Int32) (x2 : Int32) (x3 : Int32) (m0 : Mem) : Res :=
  (if x2 = 0 then
  X8_sheet_J49 a0 x1 x2 x3 m0
  else
  (if 0 ≤ x3 then
  X8_sheet_J49 a0 x1 x2 x3 m0
  else
  cal (f_X8_error a0 (3 : Int32) m0) (fun r1 m2 =>
  some (r1, m2))))
def f_X8_sheet  (a0 : Nat) (x1 : Int32) (x2 : Int32) (x3 : Int32) (m0 : Mem) : Res :=
  cal (f_X8_isSheet x1 m0) (fun r1 m2 =>
  (if r1 = 0 then
  X8_sheet_J29 a0 m2
  else
  (if x2 = 0 then
  X8_sheet_J35 a0 x1 x2 x3 m2
  else
  (if x2 = (8 : Int32) then
  X8_sheet_J35 a0 x1 x2 x3 m2
  else
  (if x2 = (16 : Int32) then
  X8_sheet_J35 a0 x1 x2 x3 m2
  else
  (if x2 = (32 : Int32) then
  X8_sheet_J35 a0 x1 x2 x3 m2
  else
  X8_sheet_J29 a0 m2))))))
set_option maxHeartbeats 2000000 in
theorem s_X8_sheet_J29 {K : KT}  (C : Cx K cX8_sheet RX8 4 3) (Rr : Rx K (some .int))    (a0 : Nat) (h0 : tg a0 = 8) (m0 : Mem) : G K 29 [(0, .ref (kf K a0))] [] m0 (X8_sheet_J29 a0 m0) := by
  unfold X8_sheet_J29
  refine g_aload_n C dX8_sheet_29 0 rfl rfl ?_
  refine g_iconst C (1 : Int32) dX8_sheet_30 rfl ?_
  refine g_callVi C cv_X8_error (ct_X8_error a0 (1 : Int32) h0 m0) q_344 h0 (by decide) rfl rfl (Nat.le_of_ble_eq_true rfl) dX8_sheet_31 (fun r1 m2 => ?_)
  exact g_iret C Rr dX8_sheet_34
set_option maxHeartbeats 2000000 in
theorem s_X8_sheet_J81 {K : KT}  (C : Cx K cX8_sheet RX8 4 3) (Rr : Rx K (some .int))    (as0 : Nat) (xs1 : Int32) (xs2 : Int32) (hs0 : tg as0 = 4) (m0 : Mem) : G K 81 [] [.int xs2, .int xs1, .ref (kf K as0)] m0 (X8_sheet_J81 as0 xs1 xs2 m0) := by
  unfold X8_sheet_J81
  refine g_callVv C cv_X4_lay (ct_X4_lay as0 xs1 xs2 hs0 m0) q_823 hs0 (by decide) rfl rfl (Nat.le_of_ble_eq_true rfl) dX8_sheet_81 (fun r1 m2 => ?_)
  refine g_iconst C (1 : Int32) dX8_sheet_84 rfl ?_
  exact g_iret C Rr dX8_sheet_85
set_option maxHeartbeats 2000000 in
theorem s_X8_sheet_J65 {K : KT}  (C : Cx K cX8_sheet RX8 4 3) (Rr : Rx K (some .int))    (a0 : Nat) (x1 : Int32) (x2 : Int32) (x3 : Int32) (h0 : tg a0 = 8) (m0 : Mem) : G K 65 [(0, .ref (kf K a0)), (1, .int x1), (2, .int x2), (3, .int x3)] [] m0 (X8_sheet_J65 a0 x1 x2 x3 m0) := by
  unfold X8_sheet_J65
  refine g_aload_n C dX8_sheet_65 0 rfl rfl ?_
  refine g_getr C 3 124 Fx8 h0 (by decide) rfl rfl q_309 dX8_sheet_66 ?_
  refine g_iload_n C dX8_sheet_69 1 rfl rfl ?_
  refine g_aald13 C (cl_8_3 h0) dX8_sheet_70 (fun g1 => ?_)
  refine g_iload_n C dX8_sheet_71 2 rfl rfl ?_
  refine g_iload_n C dX8_sheet_72 2 rfl rfl ?_
  refine g_if_ne C 80 dX8_sheet_73 (by decide) (fun _ => ?_) (fun _ => ?_)
  · refine g_iload_n C dX8_sheet_80 3 rfl rfl ?_
    refine g_sub [] rfl ?_
    exact s_X8_sheet_J81 C Rr ((a0 + 124) + 10 + 2 * x1.toNatClampNeg) x2 x3 (ca_13 (cl_8_3 h0) g1) m0
  · refine g_iconst C (0 : Int32) dX8_sheet_76 rfl ?_
    refine g_goto C 81 dX8_sheet_77 (by decide) ?_
    refine g_sub [] rfl ?_
    exact s_X8_sheet_J81 C Rr ((a0 + 124) + 10 + 2 * x1.toNatClampNeg) x2 (0 : Int32) (ca_13 (cl_8_3 h0) g1) m0
set_option maxHeartbeats 2000000 in
theorem s_X8_sheet_J49 {K : KT}  (C : Cx K cX8_sheet RX8 4 3) (Rr : Rx K (some .int))    (a0 : Nat) (x1 : Int32) (x2 : Int32) (x3 : Int32) (h0 : tg a0 = 8) (m0 : Mem) : G K 49 [(0, .ref (kf K a0)), (1, .int x1), (2, .int x2), (3, .int x3)] [] m0 (X8_sheet_J49 a0 x1 x2 x3 m0) := by
  unfold X8_sheet_J49
  refine g_iload_n C dX8_sheet_49 2 rfl rfl ?_
  refine g_if_eq C 65 dX8_sheet_50 (by decide) (fun _ => ?_) (fun _ => ?_)
  · refine g_sub [0, 1, 2, 3] rfl ?_
    exact s_X8_sheet_J65 C Rr a0 x1 x2 x3 h0 m0
  · refine g_iload_n C dX8_sheet_53 3 rfl rfl ?_
    refine g_bipush C (24 : Int32) dX8_sheet_54 rfl ?_
    refine g_icmp_le C 65 dX8_sheet_56 (by decide) (fun _ => ?_) (fun _ => ?_)
    · refine g_sub [0, 1, 2, 3] rfl ?_
      exact s_X8_sheet_J65 C Rr a0 x1 x2 x3 h0 m0
    · refine g_aload_n C dX8_sheet_59 0 rfl rfl ?_
      refine g_iconst C (1 : Int32) dX8_sheet_60 rfl ?_
      refine g_callVi C cv_X8_error (ct_X8_error a0 (1 : Int32) h0 m0) q_344 h0 (by decide) rfl rfl (Nat.le_of_ble_eq_true rfl) dX8_sheet_61 (fun r1 m2 => ?_)
      exact g_iret C Rr dX8_sheet_64
set_option maxHeartbeats 2000000 in
theorem s_X8_sheet_J35 {K : KT}  (C : Cx K cX8_sheet RX8 4 3) (Rr : Rx K (some .int))    (a0 : Nat) (x1 : Int32) (x2 : Int32) (x3 : Int32) (h0 : tg a0 = 8) (m0 : Mem) : G K 35 [(0, .ref (kf K a0)), (1, .int x1), (2, .int x2), (3, .int x3)] [] m0 (X8_sheet_J35 a0 x1 x2 x3 m0) := by
  unfold X8_sheet_J35
  refine g_iload_n C dX8_sheet_35 2 rfl rfl ?_
  refine g_if_eq C 49 dX8_sheet_36 (by decide) (fun _ => ?_) (fun _ => ?_)
  · refine g_sub [0, 1, 2, 3] rfl ?_
    exact s_X8_sheet_J49 C Rr a0 x1 x2 x3 h0 m0
  · refine g_iload_n C dX8_sheet_39 3 rfl rfl ?_
    refine g_if_ge C 49 dX8_sheet_40 (by decide) (fun _ => ?_) (fun _ => ?_)
    · refine g_sub [0, 1, 2, 3] rfl ?_
      exact s_X8_sheet_J49 C Rr a0 x1 x2 x3 h0 m0
    · refine g_aload_n C dX8_sheet_43 0 rfl rfl ?_
      refine g_iconst C (3 : Int32) dX8_sheet_44 rfl ?_
      refine g_callVi C cv_X8_error (ct_X8_error a0 (3 : Int32) h0 m0) q_344 h0 (by decide) rfl rfl (Nat.le_of_ble_eq_true rfl) dX8_sheet_45 (fun r1 m2 => ?_)
      exact g_iret C Rr dX8_sheet_48
set_option maxHeartbeats 2000000 in
theorem s_X8_sheet {K : KT}  (C : Cx K cX8_sheet RX8 4 3) (Rr : Rx K (some .int))  (a0 : Nat) (x1 : Int32) (x2 : Int32) (x3 : Int32) (h0 : tg a0 = 8) (m0 : Mem) : G K 0 [(0, .ref (kf K a0)), (1, .int x1), (2, .int x2), (3, .int x3)] [] m0 (f_X8_sheet a0 x1 x2 x3 m0) := by
  unfold f_X8_sheet
  refine g_iload_n C dX8_sheet_0 1 rfl rfl ?_
  refine g_callSi C cv_X8_isSheet q_821 (ct_X8_isSheet x1  m0) q_820 (by decide) rfl rfl (Nat.le_of_ble_eq_true rfl) dX8_sheet_1 (fun r1 m2 => ?_)
  refine g_if_eq C 29 dX8_sheet_4 (by decide) (fun _ => ?_) (fun _ => ?_)
  · refine g_sub [0] rfl ?_
    exact s_X8_sheet_J29 C Rr a0 h0 m2
  · refine g_iload_n C dX8_sheet_7 2 rfl rfl ?_
    refine g_if_eq C 35 dX8_sheet_8 (by decide) (fun _ => ?_) (fun _ => ?_)
    · refine g_sub [0, 1, 2, 3] rfl ?_
      exact s_X8_sheet_J35 C Rr a0 x1 x2 x3 h0 m2
    · refine g_iload_n C dX8_sheet_11 2 rfl rfl ?_
      refine g_bipush C (8 : Int32) dX8_sheet_12 rfl ?_
      refine g_icmp_eq C 35 dX8_sheet_14 (by decide) (fun _ => ?_) (fun _ => ?_)
      · refine g_sub [0, 1, 2, 3] rfl ?_
        exact s_X8_sheet_J35 C Rr a0 x1 x2 x3 h0 m2
      · refine g_iload_n C dX8_sheet_17 2 rfl rfl ?_
        refine g_bipush C (16 : Int32) dX8_sheet_18 rfl ?_
        refine g_icmp_eq C 35 dX8_sheet_20 (by decide) (fun _ => ?_) (fun _ => ?_)
        · refine g_sub [0, 1, 2, 3] rfl ?_
          exact s_X8_sheet_J35 C Rr a0 x1 x2 x3 h0 m2
        · refine g_iload_n C dX8_sheet_23 2 rfl rfl ?_
          refine g_bipush C (32 : Int32) dX8_sheet_24 rfl ?_
          refine g_icmp_eq C 35 dX8_sheet_26 (by decide) (fun _ => ?_) (fun _ => ?_)
          · refine g_sub [0, 1, 2, 3] rfl ?_
            exact s_X8_sheet_J35 C Rr a0 x1 x2 x3 h0 m2
          · refine g_sub [0] rfl ?_
            exact s_X8_sheet_J29 C Rr a0 h0 m2
theorem ct_X8_sheet {Ω : OT} (a0 : Nat) (x1 : Int32) (x2 : Int32) (x3 : Int32) (h0 : tg a0 = 8) (m0 : Mem) : Ct Ω yX8_sheet cX8_sheet 4 (some .int) 3 [.ref (oF Ω a0), .int x1, .int x2, .int x3] m0 (f_X8_sheet a0 x1 x2 x3 m0) := by
  refine Ct_of (by decide) (Nat.le_of_ble_eq_true rfl) ?_
  intro K hK C Rr
  subst hK
  exact s_X8_sheet C Rr  a0 x1 x2 x3 h0 m0
def f_X8_put  (a0 : Nat) (x1 : Int32) (x2 : Int32) (x3 : Int32) (m0 : Mem) : Res :=
  cal (f_X8_isSheet x1 m0) (fun r1 m2 =>
  (if r1 = 0 then
  cal (f_X8_error a0 (1 : Int32) m2) (fun r16 m17 =>
  some (r16, m17))
  else
  gd (inb x1 4) (
  cal (f_X4_isMissing ((a0 + 124) + 10 + 2 * x1.toNatClampNeg) m2) (fun r4 m5 =>
  (if r4 = 0 then
  gd (inb x1 4) (
  cal (f_X8_within x2 (0 : Int32) ((m5 ((a0 + 124) + 10 + 2 * x1.toNatClampNeg) 1) - (1 : Int32)) m5) (fun r7 m8 =>
  (if r7 = 0 then
  cal (f_X8_error a0 (1 : Int32) m8) (fun r12 m13 =>
  some (r12, m13))
  else
  gd (inb x1 4) (
  cal (f_X4_write ((a0 + 124) + 10 + 2 * x1.toNatClampNeg) x2 x3 m8) (fun r10 m11 =>
  some ((1 : Int32), m11))))))
  else
  cal (f_X8_error a0 (2 : Int32) m5) (fun r14 m15 =>
  some (r14, m15)))))))
set_option maxHeartbeats 2000000 in
theorem s_X8_put {K : KT}  (C : Cx K cX8_put RX8 4 3) (Rr : Rx K (some .int))  (a0 : Nat) (x1 : Int32) (x2 : Int32) (x3 : Int32) (h0 : tg a0 = 8) (m0 : Mem) : G K 0 [(0, .ref (kf K a0)), (1, .int x1), (2, .int x2), (3, .int x3)] [] m0 (f_X8_put a0 x1 x2 x3 m0) := by
  unfold f_X8_put
  refine g_iload_n C dX8_put_0 1 rfl rfl ?_
  refine g_callSi C cv_X8_isSheet q_821 (ct_X8_isSheet x1  m0) q_820 (by decide) rfl rfl (Nat.le_of_ble_eq_true rfl) dX8_put_1 (fun r1 m2 => ?_)
  refine g_if_ne C 13 dX8_put_4 (by decide) (fun _ => ?_) (fun _ => ?_)
  · refine g_aload_n C dX8_put_13 0 rfl rfl ?_
    refine g_getr C 3 124 Fx8 h0 (by decide) rfl rfl q_309 dX8_put_14 ?_
    refine g_iload_n C dX8_put_17 1 rfl rfl ?_
    refine g_aald13 C (cl_8_3 h0) dX8_put_18 (fun g3 => ?_)
    refine g_callVi C cv_X4_isMissing (ct_X4_isMissing ((a0 + 124) + 10 + 2 * x1.toNatClampNeg) (ca_13 (cl_8_3 h0) g3) m2) q_832 (ca_13 (cl_8_3 h0) g3) (by decide) rfl rfl (Nat.le_of_ble_eq_true rfl) dX8_put_19 (fun r4 m5 => ?_)
    refine g_if_eq C 31 dX8_put_22 (by decide) (fun _ => ?_) (fun _ => ?_)
    · refine g_iload_n C dX8_put_31 2 rfl rfl ?_
      refine g_iconst C (0 : Int32) dX8_put_32 rfl ?_
      refine g_aload_n C dX8_put_33 0 rfl rfl ?_
      refine g_getr C 3 124 Fx8 h0 (by decide) rfl rfl q_309 dX8_put_34 ?_
      refine g_iload_n C dX8_put_37 1 rfl rfl ?_
      refine g_aald13 C (cl_8_3 h0) dX8_put_38 (fun g6 => ?_)
      refine g_geti C 1 Fx4 (ca_13 (cl_8_3 h0) g6) (by decide) rfl rfl q_296 dX8_put_39 ?_
      refine g_iconst C (1 : Int32) dX8_put_42 rfl ?_
      refine g_isub C dX8_put_43 ?_
      refine g_callSi C cv_X8_within q_342 (ct_X8_within x2 (0 : Int32) ((m5 ((a0 + 124) + 10 + 2 * x1.toNatClampNeg) 1) - (1 : Int32))  m5) q_341 (by decide) rfl rfl (Nat.le_of_ble_eq_true rfl) dX8_put_44 (fun r7 m8 => ?_)
      refine g_if_ne C 56 dX8_put_47 (by decide) (fun _ => ?_) (fun _ => ?_)
      · refine g_aload_n C dX8_put_56 0 rfl rfl ?_
        refine g_getr C 3 124 Fx8 h0 (by decide) rfl rfl q_309 dX8_put_57 ?_
        refine g_iload_n C dX8_put_60 1 rfl rfl ?_
        refine g_aald13 C (cl_8_3 h0) dX8_put_61 (fun g9 => ?_)
        refine g_iload_n C dX8_put_62 2 rfl rfl ?_
        refine g_iload_n C dX8_put_63 3 rfl rfl ?_
        refine g_callVv C cv_X4_write (ct_X4_write ((a0 + 124) + 10 + 2 * x1.toNatClampNeg) x2 x3 (ca_13 (cl_8_3 h0) g9) m8) q_836 (ca_13 (cl_8_3 h0) g9) (by decide) rfl rfl (Nat.le_of_ble_eq_true rfl) dX8_put_64 (fun r10 m11 => ?_)
        refine g_iconst C (1 : Int32) dX8_put_67 rfl ?_
        exact g_iret C Rr dX8_put_68
      · refine g_aload_n C dX8_put_50 0 rfl rfl ?_
        refine g_iconst C (1 : Int32) dX8_put_51 rfl ?_
        refine g_callVi C cv_X8_error (ct_X8_error a0 (1 : Int32) h0 m8) q_344 h0 (by decide) rfl rfl (Nat.le_of_ble_eq_true rfl) dX8_put_52 (fun r12 m13 => ?_)
        exact g_iret C Rr dX8_put_55
    · refine g_aload_n C dX8_put_25 0 rfl rfl ?_
      refine g_iconst C (2 : Int32) dX8_put_26 rfl ?_
      refine g_callVi C cv_X8_error (ct_X8_error a0 (2 : Int32) h0 m5) q_344 h0 (by decide) rfl rfl (Nat.le_of_ble_eq_true rfl) dX8_put_27 (fun r14 m15 => ?_)
      exact g_iret C Rr dX8_put_30
  · refine g_aload_n C dX8_put_7 0 rfl rfl ?_
    refine g_iconst C (1 : Int32) dX8_put_8 rfl ?_
    refine g_callVi C cv_X8_error (ct_X8_error a0 (1 : Int32) h0 m2) q_344 h0 (by decide) rfl rfl (Nat.le_of_ble_eq_true rfl) dX8_put_9 (fun r16 m17 => ?_)
    exact g_iret C Rr dX8_put_12
theorem ct_X8_put {Ω : OT} (a0 : Nat) (x1 : Int32) (x2 : Int32) (x3 : Int32) (h0 : tg a0 = 8) (m0 : Mem) : Ct Ω yX8_put cX8_put 4 (some .int) 3 [.ref (oF Ω a0), .int x1, .int x2, .int x3] m0 (f_X8_put a0 x1 x2 x3 m0) := by
  refine Ct_of (by decide) (Nat.le_of_ble_eq_true rfl) ?_
  intro K hK C Rr
  subst hK
  exact s_X8_put C Rr  a0 x1 x2 x3 h0 m0
def X8_move_J14   (a0 : Nat) (m0 : Mem) : Res :=
  cal (f_X8_error a0 (1 : Int32) m0) (fun r1 m2 =>
  some (r1, m2))
def X8_move_J52   (a0 : Nat) (m0 : Mem) : Res :=
  cal (f_X8_error a0 (2 : Int32) m0) (fun r1 m2 =>
  some (r1, m2))
def X8_move_J100   (a0 : Nat) (m0 : Mem) : Res :=
  cal (f_X8_error a0 (1 : Int32) m0) (fun r1 m2 =>
  some (r1, m2))
def f_X8_move  (a0 : Nat) (x1 : Int32) (x2 : Int32) (x3 : Int32) (x4 : Int32) (x5 : Int32) (m0 : Mem) : Res :=
  cal (f_X8_isSheet x1 m0) (fun r1 m2 =>
  (if r1 = 0 then
  X8_move_J14 a0 m2
  else
  cal (f_X8_isSheet x3 m2) (fun r3 m4 =>
  (if r3 = 0 then
  X8_move_J14 a0 m4
  else
  gd (inb x1 4) (
  gd (inb x3 4) (
  cal (f_X4_isMissing ((a0 + 124) + 10 + 2 * x1.toNatClampNeg) m4) (fun r7 m8 =>
  (if r7 = 0 then
  cal (f_X4_isMissing ((a0 + 124) + 10 + 2 * x3.toNatClampNeg) m8) (fun r9 m10 =>
  (if r9 = 0 then
  (if (m10 ((a0 + 124) + 10 + 2 * x1.toNatClampNeg) 0) = (m10 ((a0 + 124) + 10 + 2 * x3.toNatClampNeg) 0) then
  cal (f_X4_holds ((a0 + 124) + 10 + 2 * x1.toNatClampNeg) x2 x5 m10) (fun r11 m12 =>
  (if r11 = 0 then
  X8_move_J100 a0 m12
  else
  cal (f_X4_holds ((a0 + 124) + 10 + 2 * x3.toNatClampNeg) x4 x5 m12) (fun r13 m14 =>
  (if r13 = 0 then
  X8_move_J100 a0 m14
  else
  gd (cpok x2 x4 x5 24 24) (bnd (mcpy m14 (((a0 + 124) + 10 + 2 * x1.toNatClampNeg) + 1) x2.toNatClampNeg (((a0 + 124) + 10 + 2 * x3.toNatClampNeg) + 1) x4.toNatClampNeg x5.toNatClampNeg) (fun m15 =>
  some (x5, m15)))))))
  else
  cal (f_X8_error a0 (5 : Int32) m10) (fun r16 m17 =>
  some (r16, m17)))
  else
  X8_move_J52 a0 m10))
  else
  X8_move_J52 a0 m8))))))))
set_option maxHeartbeats 2000000 in
theorem s_X8_move_J14 {K : KT}  (C : Cx K cX8_move RX8 8 3) (Rr : Rx K (some .int))    (a0 : Nat) (h0 : tg a0 = 8) (m0 : Mem) : G K 14 [(0, .ref (kf K a0))] [] m0 (X8_move_J14 a0 m0) := by
  unfold X8_move_J14
  refine g_aload_n C dX8_move_14 0 rfl rfl ?_
  refine g_iconst C (1 : Int32) dX8_move_15 rfl ?_
  refine g_callVi C cv_X8_error (ct_X8_error a0 (1 : Int32) h0 m0) q_344 h0 (by decide) rfl rfl (Nat.le_of_ble_eq_true rfl) dX8_move_16 (fun r1 m2 => ?_)
  exact g_iret C Rr dX8_move_19
set_option maxHeartbeats 2000000 in
theorem s_X8_move_J52 {K : KT}  (C : Cx K cX8_move RX8 8 3) (Rr : Rx K (some .int))    (a0 : Nat) (h0 : tg a0 = 8) (m0 : Mem) : G K 52 [(0, .ref (kf K a0))] [] m0 (X8_move_J52 a0 m0) := by
  unfold X8_move_J52
  refine g_aload_n C dX8_move_52 0 rfl rfl ?_
  refine g_iconst C (2 : Int32) dX8_move_53 rfl ?_
  refine g_callVi C cv_X8_error (ct_X8_error a0 (2 : Int32) h0 m0) q_344 h0 (by decide) rfl rfl (Nat.le_of_ble_eq_true rfl) dX8_move_54 (fun r1 m2 => ?_)
  exact g_iret C Rr dX8_move_57
set_option maxHeartbeats 2000000 in
theorem s_X8_move_J100 {K : KT}  (C : Cx K cX8_move RX8 8 3) (Rr : Rx K (some .int))    (a0 : Nat) (h0 : tg a0 = 8) (m0 : Mem) : G K 100 [(0, .ref (kf K a0))] [] m0 (X8_move_J100 a0 m0) := by
  unfold X8_move_J100
  refine g_aload_n C dX8_move_100 0 rfl rfl ?_
  refine g_iconst C (1 : Int32) dX8_move_101 rfl ?_
  refine g_callVi C cv_X8_error (ct_X8_error a0 (1 : Int32) h0 m0) q_344 h0 (by decide) rfl rfl (Nat.le_of_ble_eq_true rfl) dX8_move_102 (fun r1 m2 => ?_)
  exact g_iret C Rr dX8_move_105
set_option maxHeartbeats 2000000 in
theorem s_X8_move {K : KT}  (C : Cx K cX8_move RX8 8 3) (Rr : Rx K (some .int))  (a0 : Nat) (x1 : Int32) (x2 : Int32) (x3 : Int32) (x4 : Int32) (x5 : Int32) (h0 : tg a0 = 8) (m0 : Mem) : G K 0 [(0, .ref (kf K a0)), (1, .int x1), (2, .int x2), (3, .int x3), (4, .int x4), (5, .int x5)] [] m0 (f_X8_move a0 x1 x2 x3 x4 x5 m0) := by
  unfold f_X8_move
  refine g_iload_n C dX8_move_0 1 rfl rfl ?_
  refine g_callSi C cv_X8_isSheet q_821 (ct_X8_isSheet x1  m0) q_820 (by decide) rfl rfl (Nat.le_of_ble_eq_true rfl) dX8_move_1 (fun r1 m2 => ?_)
  refine g_if_eq C 14 dX8_move_4 (by decide) (fun _ => ?_) (fun _ => ?_)
  · refine g_sub [0] rfl ?_
    exact s_X8_move_J14 C Rr a0 h0 m2
  · refine g_iload_n C dX8_move_7 3 rfl rfl ?_
    refine g_callSi C cv_X8_isSheet q_821 (ct_X8_isSheet x3  m2) q_820 (by decide) rfl rfl (Nat.le_of_ble_eq_true rfl) dX8_move_8 (fun r3 m4 => ?_)
    refine g_if_ne C 20 dX8_move_11 (by decide) (fun _ => ?_) (fun _ => ?_)
    · refine g_aload_n C dX8_move_20 0 rfl rfl ?_
      refine g_getr C 3 124 Fx8 h0 (by decide) rfl rfl q_309 dX8_move_21 ?_
      refine g_iload_n C dX8_move_24 1 rfl rfl ?_
      refine g_aald13 C (cl_8_3 h0) dX8_move_25 (fun g5 => ?_)
      refine g_astore C dX8_move_26 (by decide) rfl ?_
      refine g_aload_n C dX8_move_28 1 rfl rfl ?_
      refine g_getr C 3 124 Fx8 h0 (by decide) rfl rfl q_309 dX8_move_29 ?_
      refine g_iload_n C dX8_move_32 4 rfl rfl ?_
      refine g_aald13 C (cl_8_3 h0) dX8_move_33 (fun g6 => ?_)
      refine g_astore C dX8_move_34 (by decide) rfl ?_
      refine g_aload C dX8_move_36 1 rfl ?_
      refine g_callVi C cv_X4_isMissing (ct_X4_isMissing ((a0 + 124) + 10 + 2 * x1.toNatClampNeg) (ca_13 (cl_8_3 h0) g5) m4) q_832 (ca_13 (cl_8_3 h0) g5) (by decide) rfl rfl (Nat.le_of_ble_eq_true rfl) dX8_move_38 (fun r7 m8 => ?_)
      refine g_if_ne C 52 dX8_move_41 (by decide) (fun _ => ?_) (fun _ => ?_)
      · refine g_sub [2] rfl ?_
        exact s_X8_move_J52 C Rr a0 h0 m8
      · refine g_aload C dX8_move_44 0 rfl ?_
        refine g_callVi C cv_X4_isMissing (ct_X4_isMissing ((a0 + 124) + 10 + 2 * x3.toNatClampNeg) (ca_13 (cl_8_3 h0) g6) m8) q_832 (ca_13 (cl_8_3 h0) g6) (by decide) rfl rfl (Nat.le_of_ble_eq_true rfl) dX8_move_46 (fun r9 m10 => ?_)
        refine g_if_eq C 58 dX8_move_49 (by decide) (fun _ => ?_) (fun _ => ?_)
        · refine g_aload C dX8_move_58 1 rfl ?_
          refine g_geti C 0 Fx4 (ca_13 (cl_8_3 h0) g5) (by decide) rfl rfl q_294 dX8_move_60 ?_
          refine g_aload C dX8_move_63 0 rfl ?_
          refine g_geti C 0 Fx4 (ca_13 (cl_8_3 h0) g6) (by decide) rfl rfl q_294 dX8_move_65 ?_
          refine g_icmp_eq C 77 dX8_move_68 (by decide) (fun _ => ?_) (fun _ => ?_)
          · refine g_aload C dX8_move_77 1 rfl ?_
            refine g_iload_n C dX8_move_79 4 rfl rfl ?_
            refine g_iload C dX8_move_80 7 rfl ?_
            refine g_callVi C cv_X4_holds (ct_X4_holds ((a0 + 124) + 10 + 2 * x1.toNatClampNeg) x2 x5 (ca_13 (cl_8_3 h0) g5) m10) q_844 (ca_13 (cl_8_3 h0) g5) (by decide) rfl rfl (Nat.le_of_ble_eq_true rfl) dX8_move_82 (fun r11 m12 => ?_)
            refine g_if_eq C 100 dX8_move_85 (by decide) (fun _ => ?_) (fun _ => ?_)
            · refine g_sub [2] rfl ?_
              exact s_X8_move_J100 C Rr a0 h0 m12
            · refine g_aload C dX8_move_88 0 rfl ?_
              refine g_iload C dX8_move_90 6 rfl ?_
              refine g_iload C dX8_move_92 7 rfl ?_
              refine g_callVi C cv_X4_holds (ct_X4_holds ((a0 + 124) + 10 + 2 * x3.toNatClampNeg) x4 x5 (ca_13 (cl_8_3 h0) g6) m12) q_844 (ca_13 (cl_8_3 h0) g6) (by decide) rfl rfl (Nat.le_of_ble_eq_true rfl) dX8_move_94 (fun r13 m14 => ?_)
              refine g_if_ne C 106 dX8_move_97 (by decide) (fun _ => ?_) (fun _ => ?_)
              · refine g_aload C dX8_move_106 1 rfl ?_
                refine g_getr C 2 1 Fx4 (ca_13 (cl_8_3 h0) g5) (by decide) rfl rfl q_298 dX8_move_108 ?_
                refine g_iload_n C dX8_move_111 4 rfl rfl ?_
                refine g_aload C dX8_move_112 0 rfl ?_
                refine g_getr C 2 1 Fx4 (ca_13 (cl_8_3 h0) g6) (by decide) rfl rfl q_298 dX8_move_114 ?_
                refine g_iload C dX8_move_117 6 rfl ?_
                refine g_iload C dX8_move_119 7 rfl ?_
                refine g_copy (na := 24) (nb := 24) C q_848 q_617 q_616 q_18 (cl_4_2 (ca_13 (cl_8_3 h0) g5)) (cl_4_2 (ca_13 (cl_8_3 h0) g6)) (by decide) (Nat.le_of_ble_eq_true rfl) dX8_move_121 (fun m15 => ?_)
                refine g_iload C dX8_move_124 7 rfl ?_
                exact g_iret C Rr dX8_move_126
              · refine g_sub [2] rfl ?_
                exact s_X8_move_J100 C Rr a0 h0 m14
          · refine g_aload_n C dX8_move_71 2 rfl rfl ?_
            refine g_iconst C (5 : Int32) dX8_move_72 rfl ?_
            refine g_callVi C cv_X8_error (ct_X8_error a0 (5 : Int32) h0 m10) q_344 h0 (by decide) rfl rfl (Nat.le_of_ble_eq_true rfl) dX8_move_73 (fun r16 m17 => ?_)
            exact g_iret C Rr dX8_move_76
        · refine g_sub [2] rfl ?_
          exact s_X8_move_J52 C Rr a0 h0 m10
    · refine g_sub [0] rfl ?_
      exact s_X8_move_J14 C Rr a0 h0 m4
theorem ct_X8_move {Ω : OT} (a0 : Nat) (x1 : Int32) (x2 : Int32) (x3 : Int32) (x4 : Int32) (x5 : Int32) (h0 : tg a0 = 8) (m0 : Mem) : Ct Ω yX8_move cX8_move 8 (some .int) 3 [.ref (oF Ω a0), .int x1, .int x2, .int x3, .int x4, .int x5] m0 (f_X8_move a0 x1 x2 x3 x4 x5 m0) := by
  refine Ct_of (by decide) (Nat.le_of_ble_eq_true rfl) ?_
  intro K hK C Rr
  subst hK
  exact s_X8_move C Rr  a0 x1 x2 x3 x4 x5 h0 m0
def X8_sheetRefusal_J26   (xs0 : Int32) (m0 : Mem) : Res :=
  some (xs0, m0)
def f_X8_sheetRefusal  (a0 : Nat) (x1 : Int32) (m0 : Mem) : Res :=
  cal (f_X8_isSheet x1 m0) (fun r1 m2 =>
  (if r1 = 0 then
  some ((1 : Int32), m2)
  else
  gd (inb x1 4) (
  cal (f_X4_isMissing ((a0 + 124) + 10 + 2 * x1.toNatClampNeg) m2) (fun r4 m5 =>
  (if r4 = 0 then
  X8_sheetRefusal_J26 (0 : Int32) m5
  else
  X8_sheetRefusal_J26 (2 : Int32) m5)))))
set_option maxHeartbeats 2000000 in
theorem s_X8_sheetRefusal_J26 {K : KT}  (C : Cx K cX8_sheetRefusal RX8 2 3) (Rr : Rx K (some .int))    (xs0 : Int32)  (m0 : Mem) : G K 26 [] [.int xs0] m0 (X8_sheetRefusal_J26 xs0 m0) := by
  unfold X8_sheetRefusal_J26
  exact g_iret C Rr dX8_sheetRefusal_26
set_option maxHeartbeats 2000000 in
theorem s_X8_sheetRefusal {K : KT}  (C : Cx K cX8_sheetRefusal RX8 2 3) (Rr : Rx K (some .int))  (a0 : Nat) (x1 : Int32) (h0 : tg a0 = 8) (m0 : Mem) : G K 0 [(0, .ref (kf K a0)), (1, .int x1)] [] m0 (f_X8_sheetRefusal a0 x1 m0) := by
  unfold f_X8_sheetRefusal
  refine g_iload_n C dX8_sheetRefusal_0 1 rfl rfl ?_
  refine g_callSi C cv_X8_isSheet q_821 (ct_X8_isSheet x1  m0) q_820 (by decide) rfl rfl (Nat.le_of_ble_eq_true rfl) dX8_sheetRefusal_1 (fun r1 m2 => ?_)
  refine g_if_ne C 9 dX8_sheetRefusal_4 (by decide) (fun _ => ?_) (fun _ => ?_)
  · refine g_aload_n C dX8_sheetRefusal_9 0 rfl rfl ?_
    refine g_getr C 3 124 Fx8 h0 (by decide) rfl rfl q_309 dX8_sheetRefusal_10 ?_
    refine g_iload_n C dX8_sheetRefusal_13 1 rfl rfl ?_
    refine g_aald13 C (cl_8_3 h0) dX8_sheetRefusal_14 (fun g3 => ?_)
    refine g_callVi C cv_X4_isMissing (ct_X4_isMissing ((a0 + 124) + 10 + 2 * x1.toNatClampNeg) (ca_13 (cl_8_3 h0) g3) m2) q_832 (ca_13 (cl_8_3 h0) g3) (by decide) rfl rfl (Nat.le_of_ble_eq_true rfl) dX8_sheetRefusal_15 (fun r4 m5 => ?_)
    refine g_if_eq C 25 dX8_sheetRefusal_18 (by decide) (fun _ => ?_) (fun _ => ?_)
    · refine g_iconst C (0 : Int32) dX8_sheetRefusal_25 rfl ?_
      refine g_sub [] rfl ?_
      exact s_X8_sheetRefusal_J26 C Rr (0 : Int32) m5
    · refine g_iconst C (2 : Int32) dX8_sheetRefusal_21 rfl ?_
      refine g_goto C 26 dX8_sheetRefusal_22 (by decide) ?_
      refine g_sub [] rfl ?_
      exact s_X8_sheetRefusal_J26 C Rr (2 : Int32) m5
  · refine g_iconst C (1 : Int32) dX8_sheetRefusal_7 rfl ?_
    exact g_iret C Rr dX8_sheetRefusal_8
theorem ct_X8_sheetRefusal {Ω : OT} (a0 : Nat) (x1 : Int32) (h0 : tg a0 = 8) (m0 : Mem) : Ct Ω yX8_sheetRefusal cX8_sheetRefusal 2 (some .int) 3 [.ref (oF Ω a0), .int x1] m0 (f_X8_sheetRefusal a0 x1 m0) := by
  refine Ct_of (by decide) (Nat.le_of_ble_eq_true rfl) ?_
  intro K hK C Rr
  subst hK
  exact s_X8_sheetRefusal C Rr  a0 x1 h0 m0
def X8_customers_J93   (x5 : Int32) (m0 : Mem) : Res :=
  some (x5, m0)
def X8_customers_L42B  (k42 : Nat → Nat → Int32 → Int32 → Mem → Res) (a0 : Nat) (a3 : Nat) (x4 : Int32) (x5 : Int32) (m0 : Mem) : Res :=
  (if x4 ≤ x5 then
  some (x4, m0)
  else
  gd (inb ((3 : Int32) * x5) 24) (
  gd (inb (((3 : Int32) * x5) + (1 : Int32)) 24) (
  gd (inb (((3 : Int32) * x5) + (2 : Int32)) 24) (
  cal (f_X8_isCustomer (m0 a3 ((3 : Int32) * x5).toNatClampNeg) (m0 a3 (((3 : Int32) * x5) + (1 : Int32)).toNatClampNeg) (m0 a3 (((3 : Int32) * x5) + (2 : Int32)).toNatClampNeg) m0) (fun r1 m2 =>
  (if r1 = 0 then
  X8_customers_J93 x5 m2
  else
  (if (m2 (a0 + 1) 6) < (10 : Int32) then
  gd (inb ((3 : Int32) * x5) 24) (
  gd (inb (((3 : Int32) * x5) + (1 : Int32)) 24) (
  gd (inb (((3 : Int32) * x5) + (2 : Int32)) 24) (
  cal (f_X7_welcome (a0 + 1) (m2 a3 ((3 : Int32) * x5).toNatClampNeg) (m2 a3 (((3 : Int32) * x5) + (1 : Int32)).toNatClampNeg) (m2 a3 (((3 : Int32) * x5) + (2 : Int32)).toNatClampNeg) m2) (fun r3 m4 =>
  bnd (x5 + (1 : Int32)) (fun y5 =>
  k42 a0 a3 x4 y5 m4)))))
  else
  X8_customers_J93 x5 m2)))))))
def X8_customers_L42   : Nat → Nat → Nat → Int32 → Int32 → Mem → Res
  | 0 => fun _ _ _ _ _ => none
  | n + 1 => X8_customers_L42B (X8_customers_L42 n)
def f_X8_customers  (a0 : Nat) (x1 : Int32) (m0 : Mem) : Res :=
  cal (f_X8_sheetRefusal a0 x1 m0) (fun r1 m2 =>
  (if r1 = 0 then
  gd (inb x1 4) (
  gd (inb x1 4) (
  gd (!((3 : Int32) == 0)) (
  bnd ((m2 ((a0 + 124) + 10 + 2 * x1.toNatClampNeg) 1) / (3 : Int32)) (fun y5 =>
  X8_customers_L42 FU a0 (((a0 + 124) + 10 + 2 * x1.toNatClampNeg) + 1) y5 (0 : Int32) m2))))
  else
  cal (f_X8_error a0 r1 m2) (fun r6 m7 =>
  some (r6, m7))))
set_option maxHeartbeats 2000000 in
theorem s_X8_customers_J93 {K : KT}  (C : Cx K cX8_customers RX8 7 4) (Rr : Rx K (some .int))    (x5 : Int32)  (m0 : Mem) : G K 93 [(5, .int x5)] [] m0 (X8_customers_J93 x5 m0) := by
  unfold X8_customers_J93
  refine g_iload C dX8_customers_93 0 rfl ?_
  exact g_iret C Rr dX8_customers_95
set_option maxHeartbeats 2000000 in
theorem s_X8_customers_L42B {K : KT}  (C : Cx K cX8_customers RX8 7 4) (Rr : Rx K (some .int))  {k42 : Nat → Nat → Int32 → Int32 → Mem → Res} (hk42 : ∀ (a0 : Nat) (a3 : Nat) (x4 : Int32) (x5 : Int32) (h0 : tg a0 = 8) (h3 : tg a3 = 100 + 24) (m0 : Mem), G K 42 [(0, .ref (kf K a0)), (3, .ref (kf K a3)), (4, .int x4), (5, .int x5)] [] m0 (k42 a0 a3 x4 x5 m0)) (a0 : Nat) (a3 : Nat) (x4 : Int32) (x5 : Int32) (h0 : tg a0 = 8) (h3 : tg a3 = 100 + 24) (m0 : Mem) : G K 42 [(0, .ref (kf K a0)), (3, .ref (kf K a3)), (4, .int x4), (5, .int x5)] [] m0 (X8_customers_L42B k42 a0 a3 x4 x5 m0) := by
  unfold X8_customers_L42B
  refine g_iload C dX8_customers_42 3 rfl ?_
  refine g_iload C dX8_customers_44 2 rfl ?_
  refine g_icmp_ge C 131 dX8_customers_46 (by decide) (fun _ => ?_) (fun _ => ?_)
  · refine g_iload C dX8_customers_131 2 rfl ?_
    exact g_iret C Rr dX8_customers_133
  · refine g_aload_n C dX8_customers_49 1 rfl rfl ?_
    refine g_iconst C (3 : Int32) dX8_customers_50 rfl ?_
    refine g_iload C dX8_customers_51 3 rfl ?_
    refine g_imul C dX8_customers_53 ?_
    refine g_iald (n := 24) C h3 dX8_customers_54 (fun _ => ?_)
    refine g_aload_n C dX8_customers_55 1 rfl rfl ?_
    refine g_iconst C (3 : Int32) dX8_customers_56 rfl ?_
    refine g_iload C dX8_customers_57 3 rfl ?_
    refine g_imul C dX8_customers_59 ?_
    refine g_iconst C (1 : Int32) dX8_customers_60 rfl ?_
    refine g_iadd C dX8_customers_61 ?_
    refine g_iald (n := 24) C h3 dX8_customers_62 (fun _ => ?_)
    refine g_aload_n C dX8_customers_63 1 rfl rfl ?_
    refine g_iconst C (3 : Int32) dX8_customers_64 rfl ?_
    refine g_iload C dX8_customers_65 3 rfl ?_
    refine g_imul C dX8_customers_67 ?_
    refine g_iconst C (2 : Int32) dX8_customers_68 rfl ?_
    refine g_iadd C dX8_customers_69 ?_
    refine g_iald (n := 24) C h3 dX8_customers_70 (fun _ => ?_)
    refine g_callSi C cv_X8_isCustomer q_453 (ct_X8_isCustomer (m0 a3 ((3 : Int32) * x5).toNatClampNeg) (m0 a3 (((3 : Int32) * x5) + (1 : Int32)).toNatClampNeg) (m0 a3 (((3 : Int32) * x5) + (2 : Int32)).toNatClampNeg)  m0) q_452 (by decide) rfl rfl (Nat.le_of_ble_eq_true rfl) dX8_customers_71 (fun r1 m2 => ?_)
    refine g_istore C dX8_customers_74 (by decide) rfl ?_
    refine g_iload C dX8_customers_76 0 rfl ?_
    refine g_if_eq C 93 dX8_customers_78 (by decide) (fun _ => ?_) (fun _ => ?_)
    · refine g_sub [4] rfl ?_
      exact s_X8_customers_J93 C Rr x5 m2
    · refine g_aload_n C dX8_customers_81 1 rfl rfl ?_
      refine g_getr C 0 1 Fx8 h0 (by decide) rfl rfl q_306 dX8_customers_82 ?_
      refine g_geti C 6 Fx7 (cl_8_0 h0) (by decide) rfl rfl q_140 dX8_customers_85 ?_
      refine g_bipush C (10 : Int32) dX8_customers_88 rfl ?_
      refine g_icmp_lt C 96 dX8_customers_90 (by decide) (fun _ => ?_) (fun _ => ?_)
      · refine g_aload_n C dX8_customers_96 1 rfl rfl ?_
        refine g_getr C 0 1 Fx8 h0 (by decide) rfl rfl q_306 dX8_customers_97 ?_
        refine g_aload_n C dX8_customers_100 2 rfl rfl ?_
        refine g_iconst C (3 : Int32) dX8_customers_101 rfl ?_
        refine g_iload C dX8_customers_102 4 rfl ?_
        refine g_imul C dX8_customers_104 ?_
        refine g_iald (n := 24) C h3 dX8_customers_105 (fun _ => ?_)
        refine g_aload_n C dX8_customers_106 2 rfl rfl ?_
        refine g_iconst C (3 : Int32) dX8_customers_107 rfl ?_
        refine g_iload C dX8_customers_108 4 rfl ?_
        refine g_imul C dX8_customers_110 ?_
        refine g_iconst C (1 : Int32) dX8_customers_111 rfl ?_
        refine g_iadd C dX8_customers_112 ?_
        refine g_iald (n := 24) C h3 dX8_customers_113 (fun _ => ?_)
        refine g_aload_n C dX8_customers_114 2 rfl rfl ?_
        refine g_iconst C (3 : Int32) dX8_customers_115 rfl ?_
        refine g_iload C dX8_customers_116 4 rfl ?_
        refine g_imul C dX8_customers_118 ?_
        refine g_iconst C (2 : Int32) dX8_customers_119 rfl ?_
        refine g_iadd C dX8_customers_120 ?_
        refine g_iald (n := 24) C h3 dX8_customers_121 (fun _ => ?_)
        refine g_callVv C cv_X7_welcome (ct_X7_welcome (a0 + 1) (m2 a3 ((3 : Int32) * x5).toNatClampNeg) (m2 a3 (((3 : Int32) * x5) + (1 : Int32)).toNatClampNeg) (m2 a3 (((3 : Int32) * x5) + (2 : Int32)).toNatClampNeg) (cl_8_0 h0) m2) q_455 (cl_8_0 h0) (by decide) rfl rfl (Nat.le_of_ble_eq_true rfl) dX8_customers_122 (fun r3 m4 => ?_)
        refine g_iinc (k := 4) C dX8_customers_125 rfl (w := (1 : Int32)) rfl (by decide) (fun v_ => [(5, .int v_), (6, .int r1), (0, .ref (kf K a0)), (3, .ref (kf K a3)), (4, .int x4)]) (fun _ => rfl) (fun y5 => ?_)
        refine g_goto C 42 dX8_customers_128 (by decide) ?_
        refine g_sub [2, 3, 4, 0] rfl ?_
        exact hk42 a0 a3 x4 y5 h0 h3 m4
      · refine g_sub [4] rfl ?_
        exact s_X8_customers_J93 C Rr x5 m2
theorem s_X8_customers_L42 {K : KT}  (C : Cx K cX8_customers RX8 7 4) (Rr : Rx K (some .int))    : ∀ (n : Nat) (a0 : Nat) (a3 : Nat) (x4 : Int32) (x5 : Int32) (h0 : tg a0 = 8) (h3 : tg a3 = 100 + 24) (m0 : Mem), G K 42 [(0, .ref (kf K a0)), (3, .ref (kf K a3)), (4, .int x4), (5, .int x5)] [] m0 (X8_customers_L42 n a0 a3 x4 x5 m0) := by
  intro n
  induction n with
  | zero => intros; exact g_none
  | succ n ih =>
    intro a0 a3 x4 x5 h0 h3 m0
    exact s_X8_customers_L42B C Rr  ih a0 a3 x4 x5 h0 h3 m0
set_option maxHeartbeats 2000000 in
theorem s_X8_customers {K : KT}  (C : Cx K cX8_customers RX8 7 4) (Rr : Rx K (some .int))  (a0 : Nat) (x1 : Int32) (h0 : tg a0 = 8) (m0 : Mem) : G K 0 [(0, .ref (kf K a0)), (1, .int x1)] [] m0 (f_X8_customers a0 x1 m0) := by
  unfold f_X8_customers
  refine g_aload_n C dX8_customers_0 0 rfl rfl ?_
  refine g_iload_n C dX8_customers_1 1 rfl rfl ?_
  refine g_callVi C cv_X8_sheetRefusal (ct_X8_sheetRefusal a0 x1 h0 m0) q_853 h0 (by decide) rfl rfl (Nat.le_of_ble_eq_true rfl) dX8_customers_2 (fun r1 m2 => ?_)
  refine g_istore_n C dX8_customers_5 rfl (by decide) rfl ?_
  refine g_iload_n C dX8_customers_6 0 rfl rfl ?_
  refine g_if_eq C 16 dX8_customers_7 (by decide) (fun _ => ?_) (fun _ => ?_)
  · refine g_aload_n C dX8_customers_16 1 rfl rfl ?_
    refine g_getr C 3 124 Fx8 h0 (by decide) rfl rfl q_309 dX8_customers_17 ?_
    refine g_iload_n C dX8_customers_20 2 rfl rfl ?_
    refine g_aald13 C (cl_8_3 h0) dX8_customers_21 (fun g3 => ?_)
    refine g_getr C 2 1 Fx4 (ca_13 (cl_8_3 h0) g3) (by decide) rfl rfl q_298 dX8_customers_22 ?_
    refine g_astore_n C dX8_customers_25 rfl (by decide) rfl ?_
    refine g_aload_n C dX8_customers_26 2 rfl rfl ?_
    refine g_getr C 3 124 Fx8 h0 (by decide) rfl rfl q_309 dX8_customers_27 ?_
    refine g_iload_n C dX8_customers_30 3 rfl rfl ?_
    refine g_aald13 C (cl_8_3 h0) dX8_customers_31 (fun g4 => ?_)
    refine g_geti C 1 Fx4 (ca_13 (cl_8_3 h0) g4) (by decide) rfl rfl q_296 dX8_customers_32 ?_
    refine g_iconst C (3 : Int32) dX8_customers_35 rfl ?_
    refine g_idiv C dX8_customers_36 (fun _ => ?_)
    refine g_bnd (fun y5 => ?_)
    refine g_istore C dX8_customers_37 (by decide) rfl ?_
    refine g_iconst C (0 : Int32) dX8_customers_39 rfl ?_
    refine g_istore C dX8_customers_40 (by decide) rfl ?_
    refine g_sub [4, 2, 1, 0] rfl ?_
    exact s_X8_customers_L42 C Rr FU a0 (((a0 + 124) + 10 + 2 * x1.toNatClampNeg) + 1) y5 (0 : Int32) h0 (cl_4_2 (ca_13 (cl_8_3 h0) g3)) m2
  · refine g_aload_n C dX8_customers_10 1 rfl rfl ?_
    refine g_iload_n C dX8_customers_11 0 rfl rfl ?_
    refine g_callVi C cv_X8_error (ct_X8_error a0 r1 h0 m2) q_344 h0 (by decide) rfl rfl (Nat.le_of_ble_eq_true rfl) dX8_customers_12 (fun r6 m7 => ?_)
    exact g_iret C Rr dX8_customers_15
theorem ct_X8_customers {Ω : OT} (a0 : Nat) (x1 : Int32) (h0 : tg a0 = 8) (m0 : Mem) : Ct Ω yX8_customers cX8_customers 7 (some .int) 4 [.ref (oF Ω a0), .int x1] m0 (f_X8_customers a0 x1 m0) := by
  refine Ct_of (by decide) (Nat.le_of_ble_eq_true rfl) ?_
  intro K hK C Rr
  subst hK
  exact s_X8_customers C Rr  a0 x1 h0 m0
def X8_judge_J112   (x5 : Int32) (m0 : Mem) : Res :=
  some (x5, m0)
def X8_judge_L53B  (k53 : Nat → Nat → Int32 → Int32 → Mem → Res) (a0 : Nat) (a3 : Nat) (x4 : Int32) (x5 : Int32) (m0 : Mem) : Res :=
  (if x4 ≤ x5 then
  some (x4, m0)
  else
  gd (inb ((2 : Int32) * x5) 24) (
  bnd (m0 a3 ((2 : Int32) * x5).toNatClampNeg) (fun y1 =>
  gd (inb (((2 : Int32) * x5) + (1 : Int32)) 24) (
  bnd (m0 a3 (((2 : Int32) * x5) + (1 : Int32)).toNatClampNeg) (fun y2 =>
  cal (f_X7_hasShop (a0 + 83) y1 m0) (fun r3 m4 =>
  (if r3 = 0 then
  X8_judge_J112 x5 m4
  else
  cal (f_X8_isGood y2 m4) (fun r5 m6 =>
  (if r5 = 0 then
  X8_judge_J112 x5 m6
  else
  cal (f_X7_maySell (a0 + 83) y1 y2 m6) (fun r7 m8 =>
  (if r7 = 0 then
  X8_judge_J112 x5 m8
  else
  gd (inb y1 6) (
  gd (inb y2 6) (
  gd (inb y2 6) (bnd (mset m8 ((((a0 + 83) + 2) + 5 + 3 * y1.toNatClampNeg) + 2) y2.toNatClampNeg ((m8 ((((a0 + 83) + 2) + 5 + 3 * y1.toNatClampNeg) + 2) y2.toNatClampNeg) - (1 : Int32))) (fun m10 =>
  bnd (x5 + (1 : Int32)) (fun y11 =>
  k53 a0 a3 x4 y11 m10))))))))))))))))
def X8_judge_L53   : Nat → Nat → Nat → Int32 → Int32 → Mem → Res
  | 0 => fun _ _ _ _ _ => none
  | n + 1 => X8_judge_L53B (X8_judge_L53 n)
def f_X8_judge  (a0 : Nat) (x1 : Int32) (m0 : Mem) : Res :=
  cal (f_X8_sheetRefusal a0 x1 m0) (fun r1 m2 =>
  (if r1 = 0 then
  gd (inb x1 4) (
  gd (inb x1 4) (
  gd (!((2 : Int32) == 0)) (
  bnd ((m2 ((a0 + 124) + 10 + 2 * x1.toNatClampNeg) 1) / (2 : Int32)) (fun y5 =>
  cal (f_X7_copyFrom (a0 + 83) (a0 + 1) m2) (fun r6 m7 =>
  X8_judge_L53 FU a0 (((a0 + 124) + 10 + 2 * x1.toNatClampNeg) + 1) y5 (0 : Int32) m7)))))
  else
  cal (f_X8_error a0 r1 m2) (fun r8 m9 =>
  some (r8, m9))))
set_option maxHeartbeats 2000000 in
theorem s_X8_judge_J112 {K : KT}  (C : Cx K cX8_judge RX8 8 4) (Rr : Rx K (some .int))    (x5 : Int32)  (m0 : Mem) : G K 112 [(5, .int x5)] [] m0 (X8_judge_J112 x5 m0) := by
  unfold X8_judge_J112
  refine g_iload C dX8_judge_112 0 rfl ?_
  exact g_iret C Rr dX8_judge_114
set_option maxHeartbeats 2000000 in
theorem s_X8_judge_L53B {K : KT}  (C : Cx K cX8_judge RX8 8 4) (Rr : Rx K (some .int))  {k53 : Nat → Nat → Int32 → Int32 → Mem → Res} (hk53 : ∀ (a0 : Nat) (a3 : Nat) (x4 : Int32) (x5 : Int32) (h0 : tg a0 = 8) (h3 : tg a3 = 100 + 24) (m0 : Mem), G K 53 [(0, .ref (kf K a0)), (3, .ref (kf K a3)), (4, .int x4), (5, .int x5)] [] m0 (k53 a0 a3 x4 x5 m0)) (a0 : Nat) (a3 : Nat) (x4 : Int32) (x5 : Int32) (h0 : tg a0 = 8) (h3 : tg a3 = 100 + 24) (m0 : Mem) : G K 53 [(0, .ref (kf K a0)), (3, .ref (kf K a3)), (4, .int x4), (5, .int x5)] [] m0 (X8_judge_L53B k53 a0 a3 x4 x5 m0) := by
  unfold X8_judge_L53B
  refine g_iload C dX8_judge_53 3 rfl ?_
  refine g_iload C dX8_judge_55 2 rfl ?_
  refine g_icmp_ge C 141 dX8_judge_57 (by decide) (fun _ => ?_) (fun _ => ?_)
  · refine g_iload C dX8_judge_141 2 rfl ?_
    exact g_iret C Rr dX8_judge_143
  · refine g_aload_n C dX8_judge_60 1 rfl rfl ?_
    refine g_iconst C (2 : Int32) dX8_judge_61 rfl ?_
    refine g_iload C dX8_judge_62 3 rfl ?_
    refine g_imul C dX8_judge_64 ?_
    refine g_iald (n := 24) C h3 dX8_judge_65 (fun _ => ?_)
    refine g_bnd (fun y1 => ?_)
    refine g_istore C dX8_judge_66 (by decide) rfl ?_
    refine g_aload_n C dX8_judge_68 2 rfl rfl ?_
    refine g_iconst C (2 : Int32) dX8_judge_69 rfl ?_
    refine g_iload C dX8_judge_70 4 rfl ?_
    refine g_imul C dX8_judge_72 ?_
    refine g_iconst C (1 : Int32) dX8_judge_73 rfl ?_
    refine g_iadd C dX8_judge_74 ?_
    refine g_iald (n := 24) C h3 dX8_judge_75 (fun _ => ?_)
    refine g_bnd (fun y2 => ?_)
    refine g_istore C dX8_judge_76 (by decide) rfl ?_
    refine g_aload_n C dX8_judge_78 2 rfl rfl ?_
    refine g_getr C 2 83 Fx8 h0 (by decide) rfl rfl q_308 dX8_judge_79 ?_
    refine g_iload C dX8_judge_82 1 rfl ?_
    refine g_callVi C cv_X7_hasShop (ct_X7_hasShop (a0 + 83) y1 (cl_8_2 h0) m0) q_366 (cl_8_2 h0) (by decide) rfl rfl (Nat.le_of_ble_eq_true rfl) dX8_judge_84 (fun r3 m4 => ?_)
    refine g_if_eq C 112 dX8_judge_87 (by decide) (fun _ => ?_) (fun _ => ?_)
    · refine g_sub [5] rfl ?_
      exact s_X8_judge_J112 C Rr x5 m4
    · refine g_iload C dX8_judge_90 0 rfl ?_
      refine g_callSi C cv_X8_isGood q_339 (ct_X8_isGood y2  m4) q_338 (by decide) rfl rfl (Nat.le_of_ble_eq_true rfl) dX8_judge_92 (fun r5 m6 => ?_)
      refine g_if_eq C 112 dX8_judge_95 (by decide) (fun _ => ?_) (fun _ => ?_)
      · refine g_sub [5] rfl ?_
        exact s_X8_judge_J112 C Rr x5 m6
      · refine g_aload_n C dX8_judge_98 2 rfl rfl ?_
        refine g_getr C 2 83 Fx8 h0 (by decide) rfl rfl q_308 dX8_judge_99 ?_
        refine g_iload C dX8_judge_102 1 rfl ?_
        refine g_iload C dX8_judge_104 0 rfl ?_
        refine g_callVi C cv_X7_maySell (ct_X7_maySell (a0 + 83) y1 y2 (cl_8_2 h0) m6) q_861 (cl_8_2 h0) (by decide) rfl rfl (Nat.le_of_ble_eq_true rfl) dX8_judge_106 (fun r7 m8 => ?_)
        refine g_if_ne C 115 dX8_judge_109 (by decide) (fun _ => ?_) (fun _ => ?_)
        · refine g_aload_n C dX8_judge_115 2 rfl rfl ?_
          refine g_getr C 2 83 Fx8 h0 (by decide) rfl rfl q_308 dX8_judge_116 ?_
          refine g_getr C 3 2 Fx7 (cl_8_2 h0) (by decide) rfl rfl q_133 dX8_judge_119 ?_
          refine g_iload C dX8_judge_122 1 rfl ?_
          refine g_aald10 C (cl_7_3 (cl_8_2 h0)) dX8_judge_124 (fun g9 => ?_)
          refine g_getr C 4 2 Fx5 (ca_10 (cl_7_3 (cl_8_2 h0)) g9) (by decide) rfl rfl q_64 dX8_judge_125 ?_
          refine g_iload C dX8_judge_128 0 rfl ?_
          refine g_dup2 C dX8_judge_130 rfl rfl ?_
          refine g_iald (n := 6) C (cl_5_4 (ca_10 (cl_7_3 (cl_8_2 h0)) g9)) dX8_judge_131 (fun _ => ?_)
          refine g_iconst C (1 : Int32) dX8_judge_132 rfl ?_
          refine g_isub C dX8_judge_133 ?_
          refine g_iast (n := 6) C (cl_5_4 (ca_10 (cl_7_3 (cl_8_2 h0)) g9)) dX8_judge_134 (fun m10 => ?_)
          refine g_iinc (k := 5) C dX8_judge_135 rfl (w := (1 : Int32)) rfl (by decide) (fun v_ => [(5, .int v_), (7, .int y2), (6, .int y1), (0, .ref (kf K a0)), (3, .ref (kf K a3)), (4, .int x4)]) (fun _ => rfl) (fun y11 => ?_)
          refine g_goto C 53 dX8_judge_138 (by decide) ?_
          refine g_sub [3, 4, 5, 0] rfl ?_
          exact hk53 a0 a3 x4 y11 h0 h3 m10
        · refine g_sub [5] rfl ?_
          exact s_X8_judge_J112 C Rr x5 m8
theorem s_X8_judge_L53 {K : KT}  (C : Cx K cX8_judge RX8 8 4) (Rr : Rx K (some .int))    : ∀ (n : Nat) (a0 : Nat) (a3 : Nat) (x4 : Int32) (x5 : Int32) (h0 : tg a0 = 8) (h3 : tg a3 = 100 + 24) (m0 : Mem), G K 53 [(0, .ref (kf K a0)), (3, .ref (kf K a3)), (4, .int x4), (5, .int x5)] [] m0 (X8_judge_L53 n a0 a3 x4 x5 m0) := by
  intro n
  induction n with
  | zero => intros; exact g_none
  | succ n ih =>
    intro a0 a3 x4 x5 h0 h3 m0
    exact s_X8_judge_L53B C Rr  ih a0 a3 x4 x5 h0 h3 m0
set_option maxHeartbeats 2000000 in
theorem s_X8_judge {K : KT}  (C : Cx K cX8_judge RX8 8 4) (Rr : Rx K (some .int))  (a0 : Nat) (x1 : Int32) (h0 : tg a0 = 8) (m0 : Mem) : G K 0 [(0, .ref (kf K a0)), (1, .int x1)] [] m0 (f_X8_judge a0 x1 m0) := by
  unfold f_X8_judge
  refine g_aload_n C dX8_judge_0 0 rfl rfl ?_
  refine g_iload_n C dX8_judge_1 1 rfl rfl ?_
  refine g_callVi C cv_X8_sheetRefusal (ct_X8_sheetRefusal a0 x1 h0 m0) q_853 h0 (by decide) rfl rfl (Nat.le_of_ble_eq_true rfl) dX8_judge_2 (fun r1 m2 => ?_)
  refine g_istore_n C dX8_judge_5 rfl (by decide) rfl ?_
  refine g_iload_n C dX8_judge_6 0 rfl rfl ?_
  refine g_if_eq C 16 dX8_judge_7 (by decide) (fun _ => ?_) (fun _ => ?_)
  · refine g_aload_n C dX8_judge_16 1 rfl rfl ?_
    refine g_getr C 3 124 Fx8 h0 (by decide) rfl rfl q_309 dX8_judge_17 ?_
    refine g_iload_n C dX8_judge_20 2 rfl rfl ?_
    refine g_aald13 C (cl_8_3 h0) dX8_judge_21 (fun g3 => ?_)
    refine g_getr C 2 1 Fx4 (ca_13 (cl_8_3 h0) g3) (by decide) rfl rfl q_298 dX8_judge_22 ?_
    refine g_astore_n C dX8_judge_25 rfl (by decide) rfl ?_
    refine g_aload_n C dX8_judge_26 2 rfl rfl ?_
    refine g_getr C 3 124 Fx8 h0 (by decide) rfl rfl q_309 dX8_judge_27 ?_
    refine g_iload_n C dX8_judge_30 3 rfl rfl ?_
    refine g_aald13 C (cl_8_3 h0) dX8_judge_31 (fun g4 => ?_)
    refine g_geti C 1 Fx4 (ca_13 (cl_8_3 h0) g4) (by decide) rfl rfl q_296 dX8_judge_32 ?_
    refine g_iconst C (2 : Int32) dX8_judge_35 rfl ?_
    refine g_idiv C dX8_judge_36 (fun _ => ?_)
    refine g_bnd (fun y5 => ?_)
    refine g_istore C dX8_judge_37 (by decide) rfl ?_
    refine g_aload_n C dX8_judge_39 3 rfl rfl ?_
    refine g_getr C 2 83 Fx8 h0 (by decide) rfl rfl q_308 dX8_judge_40 ?_
    refine g_aload_n C dX8_judge_43 3 rfl rfl ?_
    refine g_getr C 0 1 Fx8 h0 (by decide) rfl rfl q_306 dX8_judge_44 ?_
    refine g_callVv C cv_X7_copyFrom (ct_X7_copyFrom (a0 + 83) (a0 + 1) (cl_8_2 h0) (cl_8_0 h0) m2) q_714 (cl_8_2 h0) (by decide) rfl rfl (Nat.le_of_ble_eq_true rfl) dX8_judge_47 (fun r6 m7 => ?_)
    refine g_iconst C (0 : Int32) dX8_judge_50 rfl ?_
    refine g_istore C dX8_judge_51 (by decide) rfl ?_
    refine g_sub [4, 2, 1, 0] rfl ?_
    exact s_X8_judge_L53 C Rr FU a0 (((a0 + 124) + 10 + 2 * x1.toNatClampNeg) + 1) y5 (0 : Int32) h0 (cl_4_2 (ca_13 (cl_8_3 h0) g3)) m7
  · refine g_aload_n C dX8_judge_10 1 rfl rfl ?_
    refine g_iload_n C dX8_judge_11 0 rfl rfl ?_
    refine g_callVi C cv_X8_error (ct_X8_error a0 r1 h0 m2) q_344 h0 (by decide) rfl rfl (Nat.le_of_ble_eq_true rfl) dX8_judge_12 (fun r8 m9 => ?_)
    exact g_iret C Rr dX8_judge_15
theorem ct_X8_judge {Ω : OT} (a0 : Nat) (x1 : Int32) (h0 : tg a0 = 8) (m0 : Mem) : Ct Ω yX8_judge cX8_judge 8 (some .int) 4 [.ref (oF Ω a0), .int x1] m0 (f_X8_judge a0 x1 m0) := by
  refine Ct_of (by decide) (Nat.le_of_ble_eq_true rfl) ?_
  intro K hK C Rr
  subst hK
  exact s_X8_judge C Rr  a0 x1 h0 m0
def X8_came_J27   (a0 : Nat) (m0 : Mem) : Res :=
  cal (f_X8_error a0 (1 : Int32) m0) (fun r1 m2 =>
  some (r1, m2))
def X8_came_J59   (a0 : Nat) (m0 : Mem) : Res :=
  cal (f_X8_error a0 (2 : Int32) m0) (fun r1 m2 =>
  some (r1, m2))
def X8_came_J123   (a0 : Nat) (x3 : Int32) (m0 : Mem) : Res :=
  (if x3 = (0 : Int32) then
  some (m0 (a0 + 130) 0, m0)
  else
  if x3 = (1 : Int32) then
  some (m0 (a0 + 130) 1, m0)
  else
  if x3 = (2 : Int32) then
  some (m0 (a0 + 130) 2, m0)
  else
  some (m0 (a0 + 130) 3, m0))
def X8_came_J117   (a0 : Nat) (m0 : Mem) : Res :=
  cal (f_X8_error a0 (2 : Int32) m0) (fun r1 m2 =>
  some (r1, m2))
def f_X8_came  (a0 : Nat) (x1 : Int32) (x2 : Int32) (x3 : Int32) (m0 : Mem) : Res :=
  cal (f_X8_isSheet x1 m0) (fun r1 m2 =>
  (if r1 = 0 then
  X8_came_J27 a0 m2
  else
  cal (f_X7_hasShop (a0 + 1) x2 m2) (fun r3 m4 =>
  (if r3 = 0 then
  X8_came_J27 a0 m4
  else
  cal (f_X8_within x3 (0 : Int32) (3 : Int32) m4) (fun r5 m6 =>
  (if r5 = 0 then
  X8_came_J27 a0 m6
  else
  gd (inb x1 4) (
  cal (f_X4_isMissing ((a0 + 124) + 10 + 2 * x1.toNatClampNeg) m6) (fun r8 m9 =>
  (if r8 = 0 then
  gd (inb x1 4) (
  (if (6 : Int32) ≤ (m9 ((a0 + 124) + 10 + 2 * x1.toNatClampNeg) 1) then
  cal (f_X7_copyFrom (a0 + 83) (a0 + 1) m9) (fun r11 m12 =>
  gd (inb x1 4) (
  cal (f_X3_tryAll (a0 + 130) (a0 + 83) x2 (((a0 + 124) + 10 + 2 * x1.toNatClampNeg) + 1) 24 m12) (fun r14 m15 =>
  (if (m15 (a0 + 130) 0) = 0 then
  (if x3 = (1 : Int32) then
  X8_came_J117 a0 m15
  else
  (if x3 = (2 : Int32) then
  X8_came_J117 a0 m15
  else
  X8_came_J123 a0 x3 m15))
  else
  X8_came_J123 a0 x3 m15))))
  else
  X8_came_J59 a0 m9))
  else
  X8_came_J59 a0 m9)))))))))
set_option maxHeartbeats 2000000 in
theorem s_X8_came_J27 {K : KT}  (C : Cx K cX8_came RX8 4 42) (Rr : Rx K (some .int))    (a0 : Nat) (h0 : tg a0 = 8) (m0 : Mem) : G K 27 [(0, .ref (kf K a0))] [] m0 (X8_came_J27 a0 m0) := by
  unfold X8_came_J27
  refine g_aload_n C dX8_came_27 0 rfl rfl ?_
  refine g_iconst C (1 : Int32) dX8_came_28 rfl ?_
  refine g_callVi C cv_X8_error (ct_X8_error a0 (1 : Int32) h0 m0) q_344 h0 (by decide) rfl rfl (Nat.le_of_ble_eq_true rfl) dX8_came_29 (fun r1 m2 => ?_)
  exact g_iret C Rr dX8_came_32
set_option maxHeartbeats 2000000 in
theorem s_X8_came_J59 {K : KT}  (C : Cx K cX8_came RX8 4 42) (Rr : Rx K (some .int))    (a0 : Nat) (h0 : tg a0 = 8) (m0 : Mem) : G K 59 [(0, .ref (kf K a0))] [] m0 (X8_came_J59 a0 m0) := by
  unfold X8_came_J59
  refine g_aload_n C dX8_came_59 0 rfl rfl ?_
  refine g_iconst C (2 : Int32) dX8_came_60 rfl ?_
  refine g_callVi C cv_X8_error (ct_X8_error a0 (2 : Int32) h0 m0) q_344 h0 (by decide) rfl rfl (Nat.le_of_ble_eq_true rfl) dX8_came_61 (fun r1 m2 => ?_)
  exact g_iret C Rr dX8_came_64
set_option maxHeartbeats 2000000 in
theorem s_X8_came_J123 {K : KT}  (C : Cx K cX8_came RX8 4 42) (Rr : Rx K (some .int))    (a0 : Nat) (x3 : Int32) (h0 : tg a0 = 8) (m0 : Mem) : G K 123 [(0, .ref (kf K a0)), (3, .int x3)] [] m0 (X8_came_J123 a0 x3 m0) := by
  unfold X8_came_J123
  refine g_iload_n C dX8_came_123 1 rfl rfl ?_
  refine g_tsw C 152 dX8_came_124 (by decide) rfl (by decide) ?_ (fun e1 => ?_)
  · refine g_aload_n C dX8_came_152 0 rfl rfl ?_
    refine g_getr C 6 130 Fx8 h0 (by decide) rfl rfl q_312 dX8_came_153 ?_
    refine g_geti C 0 Fx3 (cl_8_6 h0) (by decide) rfl rfl q_263 dX8_came_156 ?_
    exact g_iret C Rr dX8_came_159
  refine g_tsw C 160 dX8_came_124 (by decide) rfl (by decide) ?_ (fun e2 => ?_)
  · refine g_aload_n C dX8_came_160 0 rfl rfl ?_
    refine g_getr C 6 130 Fx8 h0 (by decide) rfl rfl q_312 dX8_came_161 ?_
    refine g_geti C 1 Fx3 (cl_8_6 h0) (by decide) rfl rfl q_265 dX8_came_164 ?_
    exact g_iret C Rr dX8_came_167
  refine g_tsw C 168 dX8_came_124 (by decide) rfl (by decide) ?_ (fun e3 => ?_)
  · refine g_aload_n C dX8_came_168 0 rfl rfl ?_
    refine g_getr C 6 130 Fx8 h0 (by decide) rfl rfl q_312 dX8_came_169 ?_
    refine g_geti C 2 Fx3 (cl_8_6 h0) (by decide) rfl rfl q_267 dX8_came_172 ?_
    exact g_iret C Rr dX8_came_175
  refine g_tswd C 176 dX8_came_124 (sw_out [(0 : Int32), (1 : Int32), (2 : Int32)] (by intro v hv; simp only [List.mem_cons, List.not_mem_nil, or_false] at hv; rcases hv with rfl | rfl | rfl <;> assumption) (fun i h1 h2 => by have hi : i = 0 ∨ i = 1 ∨ i = 2 := (by omega); rcases hi with rfl | rfl | rfl <;> simp)) (by decide) ?_
  refine g_aload_n C dX8_came_176 0 rfl rfl ?_
  refine g_getr C 6 130 Fx8 h0 (by decide) rfl rfl q_312 dX8_came_177 ?_
  refine g_geti C 3 Fx3 (cl_8_6 h0) (by decide) rfl rfl q_269 dX8_came_180 ?_
  exact g_iret C Rr dX8_came_183
set_option maxHeartbeats 2000000 in
theorem s_X8_came_J117 {K : KT}  (C : Cx K cX8_came RX8 4 42) (Rr : Rx K (some .int))    (a0 : Nat) (h0 : tg a0 = 8) (m0 : Mem) : G K 117 [(0, .ref (kf K a0))] [] m0 (X8_came_J117 a0 m0) := by
  unfold X8_came_J117
  refine g_aload_n C dX8_came_117 0 rfl rfl ?_
  refine g_iconst C (2 : Int32) dX8_came_118 rfl ?_
  refine g_callVi C cv_X8_error (ct_X8_error a0 (2 : Int32) h0 m0) q_344 h0 (by decide) rfl rfl (Nat.le_of_ble_eq_true rfl) dX8_came_119 (fun r1 m2 => ?_)
  exact g_iret C Rr dX8_came_122
set_option maxHeartbeats 2000000 in
theorem s_X8_came {K : KT}  (C : Cx K cX8_came RX8 4 42) (Rr : Rx K (some .int))  (a0 : Nat) (x1 : Int32) (x2 : Int32) (x3 : Int32) (h0 : tg a0 = 8) (m0 : Mem) : G K 0 [(0, .ref (kf K a0)), (1, .int x1), (2, .int x2), (3, .int x3)] [] m0 (f_X8_came a0 x1 x2 x3 m0) := by
  unfold f_X8_came
  refine g_iload_n C dX8_came_0 1 rfl rfl ?_
  refine g_callSi C cv_X8_isSheet q_821 (ct_X8_isSheet x1  m0) q_820 (by decide) rfl rfl (Nat.le_of_ble_eq_true rfl) dX8_came_1 (fun r1 m2 => ?_)
  refine g_if_eq C 27 dX8_came_4 (by decide) (fun _ => ?_) (fun _ => ?_)
  · refine g_sub [0] rfl ?_
    exact s_X8_came_J27 C Rr a0 h0 m2
  · refine g_aload_n C dX8_came_7 0 rfl rfl ?_
    refine g_getr C 0 1 Fx8 h0 (by decide) rfl rfl q_306 dX8_came_8 ?_
    refine g_iload_n C dX8_came_11 2 rfl rfl ?_
    refine g_callVi C cv_X7_hasShop (ct_X7_hasShop (a0 + 1) x2 (cl_8_0 h0) m2) q_366 (cl_8_0 h0) (by decide) rfl rfl (Nat.le_of_ble_eq_true rfl) dX8_came_12 (fun r3 m4 => ?_)
    refine g_if_eq C 27 dX8_came_15 (by decide) (fun _ => ?_) (fun _ => ?_)
    · refine g_sub [0] rfl ?_
      exact s_X8_came_J27 C Rr a0 h0 m4
    · refine g_iload_n C dX8_came_18 3 rfl rfl ?_
      refine g_iconst C (0 : Int32) dX8_came_19 rfl ?_
      refine g_iconst C (3 : Int32) dX8_came_20 rfl ?_
      refine g_callSi C cv_X8_within q_342 (ct_X8_within x3 (0 : Int32) (3 : Int32)  m4) q_341 (by decide) rfl rfl (Nat.le_of_ble_eq_true rfl) dX8_came_21 (fun r5 m6 => ?_)
      refine g_if_ne C 33 dX8_came_24 (by decide) (fun _ => ?_) (fun _ => ?_)
      · refine g_aload_n C dX8_came_33 0 rfl rfl ?_
        refine g_getr C 3 124 Fx8 h0 (by decide) rfl rfl q_309 dX8_came_34 ?_
        refine g_iload_n C dX8_came_37 1 rfl rfl ?_
        refine g_aald13 C (cl_8_3 h0) dX8_came_38 (fun g7 => ?_)
        refine g_callVi C cv_X4_isMissing (ct_X4_isMissing ((a0 + 124) + 10 + 2 * x1.toNatClampNeg) (ca_13 (cl_8_3 h0) g7) m6) q_832 (ca_13 (cl_8_3 h0) g7) (by decide) rfl rfl (Nat.le_of_ble_eq_true rfl) dX8_came_39 (fun r8 m9 => ?_)
        refine g_if_ne C 59 dX8_came_42 (by decide) (fun _ => ?_) (fun _ => ?_)
        · refine g_sub [0] rfl ?_
          exact s_X8_came_J59 C Rr a0 h0 m9
        · refine g_aload_n C dX8_came_45 0 rfl rfl ?_
          refine g_getr C 3 124 Fx8 h0 (by decide) rfl rfl q_309 dX8_came_46 ?_
          refine g_iload_n C dX8_came_49 1 rfl rfl ?_
          refine g_aald13 C (cl_8_3 h0) dX8_came_50 (fun g10 => ?_)
          refine g_geti C 1 Fx4 (ca_13 (cl_8_3 h0) g10) (by decide) rfl rfl q_296 dX8_came_51 ?_
          refine g_bipush C (6 : Int32) dX8_came_54 rfl ?_
          refine g_icmp_ge C 65 dX8_came_56 (by decide) (fun _ => ?_) (fun _ => ?_)
          · refine g_aload_n C dX8_came_65 0 rfl rfl ?_
            refine g_getr C 2 83 Fx8 h0 (by decide) rfl rfl q_308 dX8_came_66 ?_
            refine g_aload_n C dX8_came_69 0 rfl rfl ?_
            refine g_getr C 0 1 Fx8 h0 (by decide) rfl rfl q_306 dX8_came_70 ?_
            refine g_callVv C cv_X7_copyFrom (ct_X7_copyFrom (a0 + 83) (a0 + 1) (cl_8_2 h0) (cl_8_0 h0) m9) q_714 (cl_8_2 h0) (by decide) rfl rfl (Nat.le_of_ble_eq_true rfl) dX8_came_73 (fun r11 m12 => ?_)
            refine g_aload_n C dX8_came_76 0 rfl rfl ?_
            refine g_getr C 6 130 Fx8 h0 (by decide) rfl rfl q_312 dX8_came_77 ?_
            refine g_aload_n C dX8_came_80 0 rfl rfl ?_
            refine g_getr C 2 83 Fx8 h0 (by decide) rfl rfl q_308 dX8_came_81 ?_
            refine g_iload_n C dX8_came_84 2 rfl rfl ?_
            refine g_aload_n C dX8_came_85 0 rfl rfl ?_
            refine g_getr C 3 124 Fx8 h0 (by decide) rfl rfl q_309 dX8_came_86 ?_
            refine g_iload_n C dX8_came_89 1 rfl rfl ?_
            refine g_aald13 C (cl_8_3 h0) dX8_came_90 (fun g13 => ?_)
            refine g_getr C 2 1 Fx4 (ca_13 (cl_8_3 h0) g13) (by decide) rfl rfl q_298 dX8_came_91 ?_
            refine g_callVv C cv_X3_tryAll (ct_X3_tryAll (a0 + 130) (a0 + 83) x2 (((a0 + 124) + 10 + 2 * x1.toNatClampNeg) + 1) 24 (cl_8_6 h0) (cl_8_2 h0) (cl_4_2 (ca_13 (cl_8_3 h0) g13)) m12) q_866 (cl_8_6 h0) (by decide) rfl rfl (Nat.le_of_ble_eq_true rfl) dX8_came_94 (fun r14 m15 => ?_)
            refine g_aload_n C dX8_came_97 0 rfl rfl ?_
            refine g_getr C 6 130 Fx8 h0 (by decide) rfl rfl q_312 dX8_came_98 ?_
            refine g_geti C 0 Fx3 (cl_8_6 h0) (by decide) rfl rfl q_263 dX8_came_101 ?_
            refine g_if_ne C 123 dX8_came_104 (by decide) (fun _ => ?_) (fun _ => ?_)
            · refine g_sub [0, 3] rfl ?_
              exact s_X8_came_J123 C Rr a0 x3 h0 m15
            · refine g_iload_n C dX8_came_107 3 rfl rfl ?_
              refine g_iconst C (1 : Int32) dX8_came_108 rfl ?_
              refine g_icmp_eq C 117 dX8_came_109 (by decide) (fun _ => ?_) (fun _ => ?_)
              · refine g_sub [0] rfl ?_
                exact s_X8_came_J117 C Rr a0 h0 m15
              · refine g_iload_n C dX8_came_112 3 rfl rfl ?_
                refine g_iconst C (2 : Int32) dX8_came_113 rfl ?_
                refine g_icmp_ne C 123 dX8_came_114 (by decide) (fun _ => ?_) (fun _ => ?_)
                · refine g_sub [0, 3] rfl ?_
                  exact s_X8_came_J123 C Rr a0 x3 h0 m15
                · refine g_sub [0] rfl ?_
                  exact s_X8_came_J117 C Rr a0 h0 m15
          · refine g_sub [0] rfl ?_
            exact s_X8_came_J59 C Rr a0 h0 m9
      · refine g_sub [0] rfl ?_
        exact s_X8_came_J27 C Rr a0 h0 m6
theorem ct_X8_came {Ω : OT} (a0 : Nat) (x1 : Int32) (x2 : Int32) (x3 : Int32) (h0 : tg a0 = 8) (m0 : Mem) : Ct Ω yX8_came cX8_came 4 (some .int) 42 [.ref (oF Ω a0), .int x1, .int x2, .int x3] m0 (f_X8_came a0 x1 x2 x3 m0) := by
  refine Ct_of (by decide) (Nat.le_of_ble_eq_true rfl) ?_
  intro K hK C Rr
  subst hK
  exact s_X8_came C Rr  a0 x1 x2 x3 h0 m0
def f_X8_image  (a0 : Nat) (m0 : Mem) : Res :=
  cal (f_X7_copyFrom (a0 + 42) (a0 + 1) m0) (fun r1 m2 =>
  bnd (mset m2 a0 8 ((m2 a0 8) + (1 : Int32))) (fun m3 =>
  some (m3 a0 8, m3)))
set_option maxHeartbeats 2000000 in
theorem s_X8_image {K : KT}  (C : Cx K cX8_image RX8 1 3) (Rr : Rx K (some .int))  (a0 : Nat) (h0 : tg a0 = 8) (m0 : Mem) : G K 0 [(0, .ref (kf K a0))] [] m0 (f_X8_image a0 m0) := by
  unfold f_X8_image
  refine g_aload_n C dX8_image_0 0 rfl rfl ?_
  refine g_getr C 1 42 Fx8 h0 (by decide) rfl rfl q_307 dX8_image_1 ?_
  refine g_aload_n C dX8_image_4 0 rfl rfl ?_
  refine g_getr C 0 1 Fx8 h0 (by decide) rfl rfl q_306 dX8_image_5 ?_
  refine g_callVv C cv_X7_copyFrom (ct_X7_copyFrom (a0 + 42) (a0 + 1) (cl_8_1 h0) (cl_8_0 h0) m0) q_714 (cl_8_1 h0) (by decide) rfl rfl (Nat.le_of_ble_eq_true rfl) dX8_image_8 (fun r1 m2 => ?_)
  refine g_aload_n C dX8_image_11 0 rfl rfl ?_
  refine g_dup C dX8_image_12 rfl ?_
  refine g_geti C 8 Fx8 h0 (by decide) rfl rfl q_314 dX8_image_13 ?_
  refine g_iconst C (1 : Int32) dX8_image_16 rfl ?_
  refine g_iadd C dX8_image_17 ?_
  refine g_puti C 8 Fx8 h0 (by decide) rfl rfl rfl rfl q_314 dX8_image_18 (fun m3 => ?_)
  refine g_aload_n C dX8_image_21 0 rfl rfl ?_
  refine g_geti C 8 Fx8 h0 (by decide) rfl rfl q_314 dX8_image_22 ?_
  exact g_iret C Rr dX8_image_25
theorem ct_X8_image {Ω : OT} (a0 : Nat) (h0 : tg a0 = 8) (m0 : Mem) : Ct Ω yX8_image cX8_image 1 (some .int) 3 [.ref (oF Ω a0)] m0 (f_X8_image a0 m0) := by
  refine Ct_of (by decide) (Nat.le_of_ble_eq_true rfl) ?_
  intro K hK C Rr
  subst hK
  exact s_X8_image C Rr  a0 h0 m0
def f_X8_restore  (a0 : Nat) (m0 : Mem) : Res :=
  (if (m0 a0 8) = 0 then
  cal (f_X8_error a0 (2 : Int32) m0) (fun r3 m4 =>
  some (r3, m4))
  else
  cal (f_X7_copyFrom (a0 + 1) (a0 + 42) m0) (fun r1 m2 =>
  some (m2 (a0 + 1) 7, m2)))
set_option maxHeartbeats 2000000 in
theorem s_X8_restore {K : KT}  (C : Cx K cX8_restore RX8 1 3) (Rr : Rx K (some .int))  (a0 : Nat) (h0 : tg a0 = 8) (m0 : Mem) : G K 0 [(0, .ref (kf K a0))] [] m0 (f_X8_restore a0 m0) := by
  unfold f_X8_restore
  refine g_aload_n C dX8_restore_0 0 rfl rfl ?_
  refine g_geti C 8 Fx8 h0 (by decide) rfl rfl q_314 dX8_restore_1 ?_
  refine g_if_ne C 13 dX8_restore_4 (by decide) (fun _ => ?_) (fun _ => ?_)
  · refine g_aload_n C dX8_restore_13 0 rfl rfl ?_
    refine g_getr C 0 1 Fx8 h0 (by decide) rfl rfl q_306 dX8_restore_14 ?_
    refine g_aload_n C dX8_restore_17 0 rfl rfl ?_
    refine g_getr C 1 42 Fx8 h0 (by decide) rfl rfl q_307 dX8_restore_18 ?_
    refine g_callVv C cv_X7_copyFrom (ct_X7_copyFrom (a0 + 1) (a0 + 42) (cl_8_0 h0) (cl_8_1 h0) m0) q_714 (cl_8_0 h0) (by decide) rfl rfl (Nat.le_of_ble_eq_true rfl) dX8_restore_21 (fun r1 m2 => ?_)
    refine g_aload_n C dX8_restore_24 0 rfl rfl ?_
    refine g_getr C 0 1 Fx8 h0 (by decide) rfl rfl q_306 dX8_restore_25 ?_
    refine g_geti C 7 Fx7 (cl_8_0 h0) (by decide) rfl rfl q_142 dX8_restore_28 ?_
    exact g_iret C Rr dX8_restore_31
  · refine g_aload_n C dX8_restore_7 0 rfl rfl ?_
    refine g_iconst C (2 : Int32) dX8_restore_8 rfl ?_
    refine g_callVi C cv_X8_error (ct_X8_error a0 (2 : Int32) h0 m0) q_344 h0 (by decide) rfl rfl (Nat.le_of_ble_eq_true rfl) dX8_restore_9 (fun r3 m4 => ?_)
    exact g_iret C Rr dX8_restore_12
theorem ct_X8_restore {Ω : OT} (a0 : Nat) (h0 : tg a0 = 8) (m0 : Mem) : Ct Ω yX8_restore cX8_restore 1 (some .int) 3 [.ref (oF Ω a0)] m0 (f_X8_restore a0 m0) := by
  refine Ct_of (by decide) (Nat.le_of_ble_eq_true rfl) ?_
  intro K hK C Rr
  subst hK
  exact s_X8_restore C Rr  a0 h0 m0
def f_X8_tell  (a0 : Nat) (x1 : Int32) (m0 : Mem) : Res :=
  (if (m0 (a0 + 1) 14) < (24 : Int32) then
  gd (inb (m0 (a0 + 1) 14) 24) (bnd (mset m0 ((a0 + 1) + 6) (m0 (a0 + 1) 14).toNatClampNeg x1) (fun m1 =>
  bnd (mset m1 (a0 + 1) 14 ((m1 (a0 + 1) 14) + (1 : Int32))) (fun m2 =>
  some (m2 (a0 + 1) 14, m2))))
  else
  cal (f_X8_error a0 (4 : Int32) m0) (fun r3 m4 =>
  some (r3, m4)))
set_option maxHeartbeats 2000000 in
theorem s_X8_tell {K : KT}  (C : Cx K cX8_tell RX8 2 2) (Rr : Rx K (some .int))  (a0 : Nat) (x1 : Int32) (h0 : tg a0 = 8) (m0 : Mem) : G K 0 [(0, .ref (kf K a0)), (1, .int x1)] [] m0 (f_X8_tell a0 x1 m0) := by
  unfold f_X8_tell
  refine g_aload_n C dX8_tell_0 0 rfl rfl ?_
  refine g_getr C 0 1 Fx8 h0 (by decide) rfl rfl q_306 dX8_tell_1 ?_
  refine g_geti C 14 Fx7 (cl_8_0 h0) (by decide) rfl rfl q_156 dX8_tell_4 ?_
  refine g_bipush C (24 : Int32) dX8_tell_7 rfl ?_
  refine g_icmp_lt C 18 dX8_tell_9 (by decide) (fun _ => ?_) (fun _ => ?_)
  · refine g_aload_n C dX8_tell_18 0 rfl rfl ?_
    refine g_getr C 0 1 Fx8 h0 (by decide) rfl rfl q_306 dX8_tell_19 ?_
    refine g_getr C 13 6 Fx7 (cl_8_0 h0) (by decide) rfl rfl q_154 dX8_tell_22 ?_
    refine g_aload_n C dX8_tell_25 0 rfl rfl ?_
    refine g_getr C 0 1 Fx8 h0 (by decide) rfl rfl q_306 dX8_tell_26 ?_
    refine g_geti C 14 Fx7 (cl_8_0 h0) (by decide) rfl rfl q_156 dX8_tell_29 ?_
    refine g_iload_n C dX8_tell_32 1 rfl rfl ?_
    refine g_iast (n := 24) C (cl_7_13 (cl_8_0 h0)) dX8_tell_33 (fun m1 => ?_)
    refine g_aload_n C dX8_tell_34 0 rfl rfl ?_
    refine g_getr C 0 1 Fx8 h0 (by decide) rfl rfl q_306 dX8_tell_35 ?_
    refine g_dup C dX8_tell_38 rfl ?_
    refine g_geti C 14 Fx7 (cl_8_0 h0) (by decide) rfl rfl q_156 dX8_tell_39 ?_
    refine g_iconst C (1 : Int32) dX8_tell_42 rfl ?_
    refine g_iadd C dX8_tell_43 ?_
    refine g_puti C 14 Fx7 (cl_8_0 h0) (by decide) rfl rfl rfl rfl q_156 dX8_tell_44 (fun m2 => ?_)
    refine g_aload_n C dX8_tell_47 0 rfl rfl ?_
    refine g_getr C 0 1 Fx8 h0 (by decide) rfl rfl q_306 dX8_tell_48 ?_
    refine g_geti C 14 Fx7 (cl_8_0 h0) (by decide) rfl rfl q_156 dX8_tell_51 ?_
    exact g_iret C Rr dX8_tell_54
  · refine g_aload_n C dX8_tell_12 0 rfl rfl ?_
    refine g_iconst C (4 : Int32) dX8_tell_13 rfl ?_
    refine g_callVi C cv_X8_error (ct_X8_error a0 (4 : Int32) h0 m0) q_344 h0 (by decide) rfl rfl (Nat.le_of_ble_eq_true rfl) dX8_tell_14 (fun r3 m4 => ?_)
    exact g_iret C Rr dX8_tell_17
theorem ct_X8_tell {Ω : OT} (a0 : Nat) (x1 : Int32) (h0 : tg a0 = 8) (m0 : Mem) : Ct Ω yX8_tell cX8_tell 2 (some .int) 2 [.ref (oF Ω a0), .int x1] m0 (f_X8_tell a0 x1 m0) := by
  refine Ct_of (by decide) (Nat.le_of_ble_eq_true rfl) ?_
  intro K hK C Rr
  subst hK
  exact s_X8_tell C Rr  a0 x1 h0 m0
def X8_check_L29B  (k29 : Nat → Int32 → Int32 → Mem → Res) (a0 : Nat) (x1 : Int32) (x2 : Int32) (m0 : Mem) : Res :=
  (if x1 ≤ x2 then
  some ((0 : Int32), m0)
  else
  cal (f_X7_pass (a0 + 83) (1 : Int32) (0 : Int32) m0) (fun r1 m2 =>
  gd (inb x2 24) (
  (if (m2 (a0 + 83) 8) = (m2 ((a0 + 1) + 6) x2.toNatClampNeg) then
  bnd (x2 + (1 : Int32)) (fun y3 =>
  k29 a0 x1 y3 m2)
  else
  some ((1 : Int32) + x2, m2)))))
def X8_check_L29   : Nat → Nat → Int32 → Int32 → Mem → Res
  | 0 => fun _ _ _ _ => none
  | n + 1 => X8_check_L29B (X8_check_L29 n)
def f_X8_check  (a0 : Nat) (m0 : Mem) : Res :=
  bnd (m0 (a0 + 1) 14) (fun y1 =>
  bnd (mset m0 (a0 + 1) 14 (0 : Int32)) (fun m2 =>
  cal (f_X7_copyFrom (a0 + 83) (a0 + 1) m2) (fun r3 m4 =>
  X8_check_L29 FU a0 y1 (0 : Int32) m4)))
set_option maxHeartbeats 2000000 in
theorem s_X8_check_L29B {K : KT}  (C : Cx K cX8_check RX8 3 7) (Rr : Rx K (some .int))  {k29 : Nat → Int32 → Int32 → Mem → Res} (hk29 : ∀ (a0 : Nat) (x1 : Int32) (x2 : Int32) (h0 : tg a0 = 8) (m0 : Mem), G K 29 [(0, .ref (kf K a0)), (1, .int x1), (2, .int x2)] [] m0 (k29 a0 x1 x2 m0)) (a0 : Nat) (x1 : Int32) (x2 : Int32) (h0 : tg a0 = 8) (m0 : Mem) : G K 29 [(0, .ref (kf K a0)), (1, .int x1), (2, .int x2)] [] m0 (X8_check_L29B k29 a0 x1 x2 m0) := by
  unfold X8_check_L29B
  refine g_iload_n C dX8_check_29 2 rfl rfl ?_
  refine g_iload_n C dX8_check_30 1 rfl rfl ?_
  refine g_icmp_ge C 72 dX8_check_31 (by decide) (fun _ => ?_) (fun _ => ?_)
  · refine g_iconst C (0 : Int32) dX8_check_72 rfl ?_
    exact g_iret C Rr dX8_check_73
  · refine g_aload_n C dX8_check_34 0 rfl rfl ?_
    refine g_getr C 2 83 Fx8 h0 (by decide) rfl rfl q_308 dX8_check_35 ?_
    refine g_iconst C (1 : Int32) dX8_check_38 rfl ?_
    refine g_iconst C (0 : Int32) dX8_check_39 rfl ?_
    refine g_callVv C cv_X7_pass (ct_X7_pass (a0 + 83) (1 : Int32) (0 : Int32) (cl_8_2 h0) m0) q_685 (cl_8_2 h0) (by decide) rfl rfl (Nat.le_of_ble_eq_true rfl) dX8_check_40 (fun r1 m2 => ?_)
    refine g_aload_n C dX8_check_43 0 rfl rfl ?_
    refine g_getr C 2 83 Fx8 h0 (by decide) rfl rfl q_308 dX8_check_44 ?_
    refine g_geti C 8 Fx7 (cl_8_2 h0) (by decide) rfl rfl q_144 dX8_check_47 ?_
    refine g_aload_n C dX8_check_50 0 rfl rfl ?_
    refine g_getr C 0 1 Fx8 h0 (by decide) rfl rfl q_306 dX8_check_51 ?_
    refine g_getr C 13 6 Fx7 (cl_8_0 h0) (by decide) rfl rfl q_154 dX8_check_54 ?_
    refine g_iload_n C dX8_check_57 2 rfl rfl ?_
    refine g_iald (n := 24) C (cl_7_13 (cl_8_0 h0)) dX8_check_58 (fun _ => ?_)
    refine g_icmp_eq C 66 dX8_check_59 (by decide) (fun _ => ?_) (fun _ => ?_)
    · refine g_iinc (k := 2) C dX8_check_66 rfl (w := (1 : Int32)) rfl (by decide) (fun v_ => [(2, .int v_), (0, .ref (kf K a0)), (1, .int x1)]) (fun _ => rfl) (fun y3 => ?_)
      refine g_goto C 29 dX8_check_69 (by decide) ?_
      refine g_sub [1, 2, 0] rfl ?_
      exact hk29 a0 x1 y3 h0 m2
    · refine g_iconst C (1 : Int32) dX8_check_62 rfl ?_
      refine g_iload_n C dX8_check_63 2 rfl rfl ?_
      refine g_iadd C dX8_check_64 ?_
      exact g_iret C Rr dX8_check_65
theorem s_X8_check_L29 {K : KT}  (C : Cx K cX8_check RX8 3 7) (Rr : Rx K (some .int))    : ∀ (n : Nat) (a0 : Nat) (x1 : Int32) (x2 : Int32) (h0 : tg a0 = 8) (m0 : Mem), G K 29 [(0, .ref (kf K a0)), (1, .int x1), (2, .int x2)] [] m0 (X8_check_L29 n a0 x1 x2 m0) := by
  intro n
  induction n with
  | zero => intros; exact g_none
  | succ n ih =>
    intro a0 x1 x2 h0 m0
    exact s_X8_check_L29B C Rr  ih a0 x1 x2 h0 m0
set_option maxHeartbeats 2000000 in
theorem s_X8_check {K : KT}  (C : Cx K cX8_check RX8 3 7) (Rr : Rx K (some .int))  (a0 : Nat) (h0 : tg a0 = 8) (m0 : Mem) : G K 0 [(0, .ref (kf K a0))] [] m0 (f_X8_check a0 m0) := by
  unfold f_X8_check
  refine g_aload_n C dX8_check_0 0 rfl rfl ?_
  refine g_getr C 0 1 Fx8 h0 (by decide) rfl rfl q_306 dX8_check_1 ?_
  refine g_geti C 14 Fx7 (cl_8_0 h0) (by decide) rfl rfl q_156 dX8_check_4 ?_
  refine g_bnd (fun y1 => ?_)
  refine g_istore_n C dX8_check_7 rfl (by decide) rfl ?_
  refine g_aload_n C dX8_check_8 1 rfl rfl ?_
  refine g_getr C 0 1 Fx8 h0 (by decide) rfl rfl q_306 dX8_check_9 ?_
  refine g_iconst C (0 : Int32) dX8_check_12 rfl ?_
  refine g_puti C 14 Fx7 (cl_8_0 h0) (by decide) rfl rfl rfl rfl q_156 dX8_check_13 (fun m2 => ?_)
  refine g_aload_n C dX8_check_16 1 rfl rfl ?_
  refine g_getr C 2 83 Fx8 h0 (by decide) rfl rfl q_308 dX8_check_17 ?_
  refine g_aload_n C dX8_check_20 1 rfl rfl ?_
  refine g_getr C 0 1 Fx8 h0 (by decide) rfl rfl q_306 dX8_check_21 ?_
  refine g_callVv C cv_X7_copyFrom (ct_X7_copyFrom (a0 + 83) (a0 + 1) (cl_8_2 h0) (cl_8_0 h0) m2) q_714 (cl_8_2 h0) (by decide) rfl rfl (Nat.le_of_ble_eq_true rfl) dX8_check_24 (fun r3 m4 => ?_)
  refine g_iconst C (0 : Int32) dX8_check_27 rfl ?_
  refine g_istore_n C dX8_check_28 rfl (by decide) rfl ?_
  refine g_sub [2, 1, 0] rfl ?_
  exact s_X8_check_L29 C Rr FU a0 y1 (0 : Int32) h0 m4
theorem ct_X8_check {Ω : OT} (a0 : Nat) (h0 : tg a0 = 8) (m0 : Mem) : Ct Ω yX8_check cX8_check 3 (some .int) 7 [.ref (oF Ω a0)] m0 (f_X8_check a0 m0) := by
  refine Ct_of (by decide) (Nat.le_of_ble_eq_true rfl) ?_
  intro K hK C Rr
  subst hK
  exact s_X8_check C Rr  a0 h0 m0
def X8_count_J178   (xs0 : Int32) (m0 : Mem) : Res :=
  some (xs0, m0)
def f_X8_count  (a0 : Nat) (x1 : Int32) (m0 : Mem) : Res :=
  (if x1 = (0 : Int32) then
  some (m0 (a0 + 1) 4, m0)
  else
  if x1 = (1 : Int32) then
  some (m0 (a0 + 1) 6, m0)
  else
  if x1 = (2 : Int32) then
  some (m0 (a0 + 1) 7, m0)
  else
  if x1 = (3 : Int32) then
  some (m0 (a0 + 1) 8, m0)
  else
  if x1 = (4 : Int32) then
  some (m0 (a0 + 1) 1, m0)
  else
  if x1 = (5 : Int32) then
  some (m0 (a0 + 1) 2, m0)
  else
  if x1 = (6 : Int32) then
  cal (f_X7_purses (a0 + 1) m0) (fun r7 m8 =>
  some (r7, m8))
  else
  if x1 = (7 : Int32) then
  some (m0 (a0 + 1) 12, m0)
  else
  if x1 = (8 : Int32) then
  some (m0 (a0 + 1) 14, m0)
  else
  if x1 = (9 : Int32) then
  some (m0 (a0 + 128) 1, m0)
  else
  if x1 = (10 : Int32) then
  some (m0 (a0 + 1) 9, m0)
  else
  cal (f_X8_isGood (x1 - (11 : Int32)) m0) (fun r14 m15 =>
  (if r14 = 0 then
  cal (f_X8_error a0 (1 : Int32) m15) (fun r16 m17 =>
  X8_count_J178 r16 m17)
  else
  gd (inb (x1 - (11 : Int32)) 6) (
  X8_count_J178 (m15 ((a0 + 1) + 1) (x1 - (11 : Int32)).toNatClampNeg) m15))))
set_option maxHeartbeats 2000000 in
theorem s_X8_count_J178 {K : KT}  (C : Cx K cX8_count RX8 2 3) (Rr : Rx K (some .int))    (xs0 : Int32)  (m0 : Mem) : G K 178 [] [.int xs0] m0 (X8_count_J178 xs0 m0) := by
  unfold X8_count_J178
  exact g_iret C Rr dX8_count_178
set_option maxHeartbeats 2000000 in
theorem s_X8_count {K : KT}  (C : Cx K cX8_count RX8 2 3) (Rr : Rx K (some .int))  (a0 : Nat) (x1 : Int32) (h0 : tg a0 = 8) (m0 : Mem) : G K 0 [(0, .ref (kf K a0)), (1, .int x1)] [] m0 (f_X8_count a0 x1 m0) := by
  unfold f_X8_count
  refine g_iload_n C dX8_count_0 1 rfl rfl ?_
  refine g_tsw C 60 dX8_count_1 (by decide) rfl (by decide) ?_ (fun e1 => ?_)
  · refine g_aload_n C dX8_count_60 0 rfl rfl ?_
    refine g_getr C 0 1 Fx8 h0 (by decide) rfl rfl q_306 dX8_count_61 ?_
    refine g_geti C 4 Fx7 (cl_8_0 h0) (by decide) rfl rfl q_136 dX8_count_64 ?_
    exact g_iret C Rr dX8_count_67
  refine g_tsw C 68 dX8_count_1 (by decide) rfl (by decide) ?_ (fun e2 => ?_)
  · refine g_aload_n C dX8_count_68 0 rfl rfl ?_
    refine g_getr C 0 1 Fx8 h0 (by decide) rfl rfl q_306 dX8_count_69 ?_
    refine g_geti C 6 Fx7 (cl_8_0 h0) (by decide) rfl rfl q_140 dX8_count_72 ?_
    exact g_iret C Rr dX8_count_75
  refine g_tsw C 76 dX8_count_1 (by decide) rfl (by decide) ?_ (fun e3 => ?_)
  · refine g_aload_n C dX8_count_76 0 rfl rfl ?_
    refine g_getr C 0 1 Fx8 h0 (by decide) rfl rfl q_306 dX8_count_77 ?_
    refine g_geti C 7 Fx7 (cl_8_0 h0) (by decide) rfl rfl q_142 dX8_count_80 ?_
    exact g_iret C Rr dX8_count_83
  refine g_tsw C 84 dX8_count_1 (by decide) rfl (by decide) ?_ (fun e4 => ?_)
  · refine g_aload_n C dX8_count_84 0 rfl rfl ?_
    refine g_getr C 0 1 Fx8 h0 (by decide) rfl rfl q_306 dX8_count_85 ?_
    refine g_geti C 8 Fx7 (cl_8_0 h0) (by decide) rfl rfl q_144 dX8_count_88 ?_
    exact g_iret C Rr dX8_count_91
  refine g_tsw C 92 dX8_count_1 (by decide) rfl (by decide) ?_ (fun e5 => ?_)
  · refine g_aload_n C dX8_count_92 0 rfl rfl ?_
    refine g_getr C 0 1 Fx8 h0 (by decide) rfl rfl q_306 dX8_count_93 ?_
    refine g_geti C 1 Fx7 (cl_8_0 h0) (by decide) rfl rfl q_128 dX8_count_96 ?_
    exact g_iret C Rr dX8_count_99
  refine g_tsw C 100 dX8_count_1 (by decide) rfl (by decide) ?_ (fun e6 => ?_)
  · refine g_aload_n C dX8_count_100 0 rfl rfl ?_
    refine g_getr C 0 1 Fx8 h0 (by decide) rfl rfl q_306 dX8_count_101 ?_
    refine g_geti C 2 Fx7 (cl_8_0 h0) (by decide) rfl rfl q_130 dX8_count_104 ?_
    exact g_iret C Rr dX8_count_107
  refine g_tsw C 108 dX8_count_1 (by decide) rfl (by decide) ?_ (fun e9 => ?_)
  · refine g_aload_n C dX8_count_108 0 rfl rfl ?_
    refine g_getr C 0 1 Fx8 h0 (by decide) rfl rfl q_306 dX8_count_109 ?_
    refine g_callVi C cv_X7_purses (ct_X7_purses (a0 + 1) (cl_8_0 h0) m0) q_905 (cl_8_0 h0) (by decide) rfl rfl (Nat.le_of_ble_eq_true rfl) dX8_count_112 (fun r7 m8 => ?_)
    exact g_iret C Rr dX8_count_115
  refine g_tsw C 116 dX8_count_1 (by decide) rfl (by decide) ?_ (fun e10 => ?_)
  · refine g_aload_n C dX8_count_116 0 rfl rfl ?_
    refine g_getr C 0 1 Fx8 h0 (by decide) rfl rfl q_306 dX8_count_117 ?_
    refine g_geti C 12 Fx7 (cl_8_0 h0) (by decide) rfl rfl q_152 dX8_count_120 ?_
    exact g_iret C Rr dX8_count_123
  refine g_tsw C 124 dX8_count_1 (by decide) rfl (by decide) ?_ (fun e11 => ?_)
  · refine g_aload_n C dX8_count_124 0 rfl rfl ?_
    refine g_getr C 0 1 Fx8 h0 (by decide) rfl rfl q_306 dX8_count_125 ?_
    refine g_geti C 14 Fx7 (cl_8_0 h0) (by decide) rfl rfl q_156 dX8_count_128 ?_
    exact g_iret C Rr dX8_count_131
  refine g_tsw C 132 dX8_count_1 (by decide) rfl (by decide) ?_ (fun e12 => ?_)
  · refine g_aload_n C dX8_count_132 0 rfl rfl ?_
    refine g_getr C 5 128 Fx8 h0 (by decide) rfl rfl q_311 dX8_count_133 ?_
    refine g_geti C 1 Fx6 (cl_8_5 h0) (by decide) rfl rfl q_237 dX8_count_136 ?_
    exact g_iret C Rr dX8_count_139
  refine g_tsw C 140 dX8_count_1 (by decide) rfl (by decide) ?_ (fun e13 => ?_)
  · refine g_aload_n C dX8_count_140 0 rfl rfl ?_
    refine g_getr C 0 1 Fx8 h0 (by decide) rfl rfl q_306 dX8_count_141 ?_
    refine g_geti C 9 Fx7 (cl_8_0 h0) (by decide) rfl rfl q_146 dX8_count_144 ?_
    exact g_iret C Rr dX8_count_147
  refine g_tswd C 148 dX8_count_1 (sw_out [(0 : Int32), (1 : Int32), (2 : Int32), (3 : Int32), (4 : Int32), (5 : Int32), (6 : Int32), (7 : Int32), (8 : Int32), (9 : Int32), (10 : Int32)] (by intro v hv; simp only [List.mem_cons, List.not_mem_nil, or_false] at hv; rcases hv with rfl | rfl | rfl | rfl | rfl | rfl | rfl | rfl | rfl | rfl | rfl <;> assumption) (fun i h1 h2 => by have hi : i = 0 ∨ i = 1 ∨ i = 2 ∨ i = 3 ∨ i = 4 ∨ i = 5 ∨ i = 6 ∨ i = 7 ∨ i = 8 ∨ i = 9 ∨ i = 10 := (by omega); rcases hi with rfl | rfl | rfl | rfl | rfl | rfl | rfl | rfl | rfl | rfl | rfl <;> simp)) (by decide) ?_
  refine g_iload_n C dX8_count_148 1 rfl rfl ?_
  refine g_bipush C (11 : Int32) dX8_count_149 rfl ?_
  refine g_isub C dX8_count_151 ?_
  refine g_callSi C cv_X8_isGood q_339 (ct_X8_isGood (x1 - (11 : Int32))  m0) q_338 (by decide) rfl rfl (Nat.le_of_ble_eq_true rfl) dX8_count_152 (fun r14 m15 => ?_)
  refine g_if_eq C 173 dX8_count_155 (by decide) (fun _ => ?_) (fun _ => ?_)
  · refine g_aload_n C dX8_count_173 0 rfl rfl ?_
    refine g_iconst C (1 : Int32) dX8_count_174 rfl ?_
    refine g_callVi C cv_X8_error (ct_X8_error a0 (1 : Int32) h0 m15) q_344 h0 (by decide) rfl rfl (Nat.le_of_ble_eq_true rfl) dX8_count_175 (fun r16 m17 => ?_)
    refine g_sub [] rfl ?_
    exact s_X8_count_J178 C Rr r16 m17
  · refine g_aload_n C dX8_count_158 0 rfl rfl ?_
    refine g_getr C 0 1 Fx8 h0 (by decide) rfl rfl q_306 dX8_count_159 ?_
    refine g_getr C 0 1 Fx7 (cl_8_0 h0) (by decide) rfl rfl q_126 dX8_count_162 ?_
    refine g_iload_n C dX8_count_165 1 rfl rfl ?_
    refine g_bipush C (11 : Int32) dX8_count_166 rfl ?_
    refine g_isub C dX8_count_168 ?_
    refine g_iald (n := 6) C (cl_7_0 (cl_8_0 h0)) dX8_count_169 (fun _ => ?_)
    refine g_goto C 178 dX8_count_170 (by decide) ?_
    refine g_sub [] rfl ?_
    exact s_X8_count_J178 C Rr (m15 ((a0 + 1) + 1) (x1 - (11 : Int32)).toNatClampNeg) m15
theorem ct_X8_count {Ω : OT} (a0 : Nat) (x1 : Int32) (h0 : tg a0 = 8) (m0 : Mem) : Ct Ω yX8_count cX8_count 2 (some .int) 3 [.ref (oF Ω a0), .int x1] m0 (f_X8_count a0 x1 m0) := by
  refine Ct_of (by decide) (Nat.le_of_ble_eq_true rfl) ?_
  intro K hK C Rr
  subst hK
  exact s_X8_count C Rr  a0 x1 h0 m0
def X8_told_J24   (xs0 : Int32) (m0 : Mem) : Res :=
  some (xs0, m0)
def f_X8_told  (a0 : Nat) (x1 : Int32) (m0 : Mem) : Res :=
  cal (f_X8_within x1 (1 : Int32) (6 : Int32) m0) (fun r1 m2 =>
  (if r1 = 0 then
  cal (f_X8_error a0 (1 : Int32) m2) (fun r3 m4 =>
  X8_told_J24 r3 m4)
  else
  gd (inb x1 7) (
  X8_told_J24 (m2 (a0 + 133) x1.toNatClampNeg) m2)))
set_option maxHeartbeats 2000000 in
theorem s_X8_told_J24 {K : KT}  (C : Cx K cX8_told RX8 2 2) (Rr : Rx K (some .int))    (xs0 : Int32)  (m0 : Mem) : G K 24 [] [.int xs0] m0 (X8_told_J24 xs0 m0) := by
  unfold X8_told_J24
  exact g_iret C Rr dX8_told_24
set_option maxHeartbeats 2000000 in
theorem s_X8_told {K : KT}  (C : Cx K cX8_told RX8 2 2) (Rr : Rx K (some .int))  (a0 : Nat) (x1 : Int32) (h0 : tg a0 = 8) (m0 : Mem) : G K 0 [(0, .ref (kf K a0)), (1, .int x1)] [] m0 (f_X8_told a0 x1 m0) := by
  unfold f_X8_told
  refine g_iload_n C dX8_told_0 1 rfl rfl ?_
  refine g_iconst C (1 : Int32) dX8_told_1 rfl ?_
  refine g_bipush C (6 : Int32) dX8_told_2 rfl ?_
  refine g_callSi C cv_X8_within q_342 (ct_X8_within x1 (1 : Int32) (6 : Int32)  m0) q_341 (by decide) rfl rfl (Nat.le_of_ble_eq_true rfl) dX8_told_4 (fun r1 m2 => ?_)
  refine g_if_eq C 19 dX8_told_7 (by decide) (fun _ => ?_) (fun _ => ?_)
  · refine g_aload_n C dX8_told_19 0 rfl rfl ?_
    refine g_iconst C (1 : Int32) dX8_told_20 rfl ?_
    refine g_callVi C cv_X8_error (ct_X8_error a0 (1 : Int32) h0 m2) q_344 h0 (by decide) rfl rfl (Nat.le_of_ble_eq_true rfl) dX8_told_21 (fun r3 m4 => ?_)
    refine g_sub [] rfl ?_
    exact s_X8_told_J24 C Rr r3 m4
  · refine g_aload_n C dX8_told_10 0 rfl rfl ?_
    refine g_getr C 7 133 Fx8 h0 (by decide) rfl rfl q_313 dX8_told_11 ?_
    refine g_iload_n C dX8_told_14 1 rfl rfl ?_
    refine g_iald (n := 7) C (cl_8_7 h0) dX8_told_15 (fun _ => ?_)
    refine g_goto C 24 dX8_told_16 (by decide) ?_
    refine g_sub [] rfl ?_
    exact s_X8_told_J24 C Rr (m2 (a0 + 133) x1.toNatClampNeg) m2
theorem ct_X8_told {Ω : OT} (a0 : Nat) (x1 : Int32) (h0 : tg a0 = 8) (m0 : Mem) : Ct Ω yX8_told cX8_told 2 (some .int) 2 [.ref (oF Ω a0), .int x1] m0 (f_X8_told a0 x1 m0) := by
  refine Ct_of (by decide) (Nat.le_of_ble_eq_true rfl) ?_
  intro K hK C Rr
  subst hK
  exact s_X8_told C Rr  a0 x1 h0 m0
def f_X9_error  (a0 : Nat) (x1 : Int32) (m0 : Mem) : Res :=
  gd (inb x1 7) (
  gd (inb x1 7) (bnd (mset m0 (a0 + 4) x1.toNatClampNeg ((m0 (a0 + 4) x1.toNatClampNeg) + (1 : Int32))) (fun m1 =>
  some ((-1000000000 : Int32) - x1, m1))))
set_option maxHeartbeats 2000000 in
theorem s_X9_error {K : KT}  (C : Cx K cX9_error RX9 2 1) (Rr : Rx K (some .int))  (a0 : Nat) (x1 : Int32) (h0 : tg a0 = 9) (m0 : Mem) : G K 0 [(0, .ref (kf K a0)), (1, .int x1)] [] m0 (f_X9_error a0 x1 m0) := by
  unfold f_X9_error
  refine g_aload_n C dX9_error_0 0 rfl rfl ?_
  refine g_getr C 4 4 Fx9 h0 (by decide) rfl rfl q_923 dX9_error_1 ?_
  refine g_iload_n C dX9_error_4 1 rfl rfl ?_
  refine g_dup2 C dX9_error_5 rfl rfl ?_
  refine g_iald (n := 7) C (cl_9_4 h0) dX9_error_6 (fun _ => ?_)
  refine g_iconst C (1 : Int32) dX9_error_7 rfl ?_
  refine g_iadd C dX9_error_8 ?_
  refine g_iast (n := 7) C (cl_9_4 h0) dX9_error_9 (fun m1 => ?_)
  refine g_ldc (v := (-1000000000 : Int32)) C q_994 dX9_error_10 ?_
  refine g_iload_n C dX9_error_12 1 rfl rfl ?_
  refine g_isub C dX9_error_13 ?_
  exact g_iret C Rr dX9_error_14
theorem ct_X9_error {Ω : OT} (a0 : Nat) (x1 : Int32) (h0 : tg a0 = 9) (m0 : Mem) : Ct Ω yX9_error cX9_error 2 (some .int) 1 [.ref (oF Ω a0), .int x1] m0 (f_X9_error a0 x1 m0) := by
  refine Ct_of (by decide) (Nat.le_of_ble_eq_true rfl) ?_
  intro K hK C Rr
  subst hK
  exact s_X9_error C Rr  a0 x1 h0 m0
def X9_in_J15   (xs0 : Int32) (m0 : Mem) : Res :=
  gd (isb xs0) (some (xs0, m0))
def X9_in_J14    (m0 : Mem) : Res :=
  X9_in_J15 (0 : Int32) m0
def f_X9_in  (x0 : Int32) (x1 : Int32) (x2 : Int32) (m0 : Mem) : Res :=
  (if x0 < x1 then
  X9_in_J14 m0
  else
  (if x2 < x0 then
  X9_in_J14 m0
  else
  X9_in_J15 (1 : Int32) m0))
set_option maxHeartbeats 2000000 in
theorem s_X9_in_J15 {K : KT}  (C : Cx K cX9_in RX9 3 1) (Rr : Rx K (some .boolean))    (xs0 : Int32)  (m0 : Mem) : G K 15 [] [.int xs0] m0 (X9_in_J15 xs0 m0) := by
  unfold X9_in_J15
  exact g_zret C Rr dX9_in_15
set_option maxHeartbeats 2000000 in
theorem s_X9_in_J14 {K : KT}  (C : Cx K cX9_in RX9 3 1) (Rr : Rx K (some .boolean))      (m0 : Mem) : G K 14 [] [] m0 (X9_in_J14 m0) := by
  unfold X9_in_J14
  refine g_iconst C (0 : Int32) dX9_in_14 rfl ?_
  refine g_sub [] rfl ?_
  exact s_X9_in_J15 C Rr (0 : Int32) m0
set_option maxHeartbeats 2000000 in
theorem s_X9_in {K : KT}  (C : Cx K cX9_in RX9 3 1) (Rr : Rx K (some .boolean))  (x0 : Int32) (x1 : Int32) (x2 : Int32)  (m0 : Mem) : G K 0 [(0, .int x0), (1, .int x1), (2, .int x2)] [] m0 (f_X9_in x0 x1 x2 m0) := by
  unfold f_X9_in
  refine g_iload_n C dX9_in_0 0 rfl rfl ?_
  refine g_iload_n C dX9_in_1 1 rfl rfl ?_
  refine g_icmp_lt C 14 dX9_in_2 (by decide) (fun _ => ?_) (fun _ => ?_)
  · refine g_sub [] rfl ?_
    exact s_X9_in_J14 C Rr m0
  · refine g_iload_n C dX9_in_5 0 rfl rfl ?_
    refine g_iload_n C dX9_in_6 2 rfl rfl ?_
    refine g_icmp_gt C 14 dX9_in_7 (by decide) (fun _ => ?_) (fun _ => ?_)
    · refine g_sub [] rfl ?_
      exact s_X9_in_J14 C Rr m0
    · refine g_iconst C (1 : Int32) dX9_in_10 rfl ?_
      refine g_goto C 15 dX9_in_11 (by decide) ?_
      refine g_sub [] rfl ?_
      exact s_X9_in_J15 C Rr (1 : Int32) m0
theorem ct_X9_in {Ω : OT} (x0 : Int32) (x1 : Int32) (x2 : Int32)  (m0 : Mem) : Ct Ω yX9_in cX9_in 3 (some .boolean) 1 [.int x0, .int x1, .int x2] m0 (f_X9_in x0 x1 x2 m0) := by
  refine Ct_of (by decide) (Nat.le_of_ble_eq_true rfl) ?_
  intro K hK C Rr
  subst hK
  exact s_X9_in C Rr  x0 x1 x2 m0
def X9_held_J19   (xs0 : Int32) (m0 : Mem) : Res :=
  some (xs0, m0)
def f_X9_held  (x0 : Int32) (x1 : Int32) (x2 : Int32) (m0 : Mem) : Res :=
  (if x1 ≤ x0 then
  (if x0 ≤ x2 then
  X9_held_J19 x0 m0
  else
  X9_held_J19 x2 m0)
  else
  X9_held_J19 x1 m0)
set_option maxHeartbeats 2000000 in
theorem s_X9_held_J19 {K : KT}  (C : Cx K cX9_held RX9 3 1) (Rr : Rx K (some .int))    (xs0 : Int32)  (m0 : Mem) : G K 19 [] [.int xs0] m0 (X9_held_J19 xs0 m0) := by
  unfold X9_held_J19
  exact g_iret C Rr dX9_held_19
set_option maxHeartbeats 2000000 in
theorem s_X9_held {K : KT}  (C : Cx K cX9_held RX9 3 1) (Rr : Rx K (some .int))  (x0 : Int32) (x1 : Int32) (x2 : Int32)  (m0 : Mem) : G K 0 [(0, .int x0), (1, .int x1), (2, .int x2)] [] m0 (f_X9_held x0 x1 x2 m0) := by
  unfold f_X9_held
  refine g_iload_n C dX9_held_0 0 rfl rfl ?_
  refine g_iload_n C dX9_held_1 1 rfl rfl ?_
  refine g_icmp_ge C 9 dX9_held_2 (by decide) (fun _ => ?_) (fun _ => ?_)
  · refine g_iload_n C dX9_held_9 0 rfl rfl ?_
    refine g_iload_n C dX9_held_10 2 rfl rfl ?_
    refine g_icmp_le C 18 dX9_held_11 (by decide) (fun _ => ?_) (fun _ => ?_)
    · refine g_iload_n C dX9_held_18 0 rfl rfl ?_
      refine g_sub [] rfl ?_
      exact s_X9_held_J19 C Rr x0 m0
    · refine g_iload_n C dX9_held_14 2 rfl rfl ?_
      refine g_goto C 19 dX9_held_15 (by decide) ?_
      refine g_sub [] rfl ?_
      exact s_X9_held_J19 C Rr x2 m0
  · refine g_iload_n C dX9_held_5 1 rfl rfl ?_
    refine g_goto C 19 dX9_held_6 (by decide) ?_
    refine g_sub [] rfl ?_
    exact s_X9_held_J19 C Rr x1 m0
theorem ct_X9_held {Ω : OT} (x0 : Int32) (x1 : Int32) (x2 : Int32)  (m0 : Mem) : Ct Ω yX9_held cX9_held 3 (some .int) 1 [.int x0, .int x1, .int x2] m0 (f_X9_held x0 x1 x2 m0) := by
  refine Ct_of (by decide) (Nat.le_of_ble_eq_true rfl) ?_
  intro K hK C Rr
  subst hK
  exact s_X9_held C Rr  x0 x1 x2 m0
def X9_carry_L2B  (k2 : Nat → Nat → Nat → Nat → Int32 → Mem → Res) (a0 n0 : Nat) (a1 n1 : Nat) (x2 : Int32) (m0 : Mem) : Res :=
  (if (516 : Int32) ≤ x2 then
  some (0, m0)
  else
  gd (inb x2 n0) (
  gd (inb x2 n1) (bnd (mset m0 a1 x2.toNatClampNeg (m0 a0 x2.toNatClampNeg)) (fun m1 =>
  bnd (x2 + (1 : Int32)) (fun y2 =>
  k2 a0 n0 a1 n1 y2 m1)))))
def X9_carry_L2   : Nat → Nat → Nat → Nat → Nat → Int32 → Mem → Res
  | 0 => fun _ _ _ _ _ _ => none
  | n + 1 => X9_carry_L2B (X9_carry_L2 n)
def f_X9_carry  (a0 n0 : Nat) (a1 n1 : Nat) (m0 : Mem) : Res :=
  X9_carry_L2 FU a0 n0 a1 n1 (0 : Int32) m0
set_option maxHeartbeats 2000000 in
theorem s_X9_carry_L2B {K : KT}  (C : Cx K cX9_carry RX9 3 1) (Rr : Rx K none)  {k2 : Nat → Nat → Nat → Nat → Int32 → Mem → Res} (hk2 : ∀ (a0 n0 : Nat) (a1 n1 : Nat) (x2 : Int32) (h0 : tg a0 = 100 + n0) (h1 : tg a1 = 100 + n1) (m0 : Mem), G K 2 [(0, .ref (kf K a0)), (1, .ref (kf K a1)), (2, .int x2)] [] m0 (k2 a0 n0 a1 n1 x2 m0)) (a0 n0 : Nat) (a1 n1 : Nat) (x2 : Int32) (h0 : tg a0 = 100 + n0) (h1 : tg a1 = 100 + n1) (m0 : Mem) : G K 2 [(0, .ref (kf K a0)), (1, .ref (kf K a1)), (2, .int x2)] [] m0 (X9_carry_L2B k2 a0 n0 a1 n1 x2 m0) := by
  unfold X9_carry_L2B
  refine g_iload_n C dX9_carry_2 2 rfl rfl ?_
  refine g_sipush C (516 : Int32) dX9_carry_3 rfl ?_
  refine g_icmp_ge C 21 dX9_carry_6 (by decide) (fun _ => ?_) (fun _ => ?_)
  · exact g_vret C Rr dX9_carry_21
  · refine g_aload_n C dX9_carry_9 1 rfl rfl ?_
    refine g_iload_n C dX9_carry_10 2 rfl rfl ?_
    refine g_aload_n C dX9_carry_11 0 rfl rfl ?_
    refine g_iload_n C dX9_carry_12 2 rfl rfl ?_
    refine g_iald (n := n0) C h0 dX9_carry_13 (fun _ => ?_)
    refine g_iast (n := n1) C h1 dX9_carry_14 (fun m1 => ?_)
    refine g_iinc (k := 2) C dX9_carry_15 rfl (w := (1 : Int32)) rfl (by decide) (fun v_ => [(2, .int v_), (0, .ref (kf K a0)), (1, .ref (kf K a1))]) (fun _ => rfl) (fun y2 => ?_)
    refine g_goto C 2 dX9_carry_18 (by decide) ?_
    refine g_sub [1, 2, 0] rfl ?_
    exact hk2 a0 n0 a1 n1 y2 h0 h1 m1
theorem s_X9_carry_L2 {K : KT}  (C : Cx K cX9_carry RX9 3 1) (Rr : Rx K none)    : ∀ (n : Nat) (a0 n0 : Nat) (a1 n1 : Nat) (x2 : Int32) (h0 : tg a0 = 100 + n0) (h1 : tg a1 = 100 + n1) (m0 : Mem), G K 2 [(0, .ref (kf K a0)), (1, .ref (kf K a1)), (2, .int x2)] [] m0 (X9_carry_L2 n a0 n0 a1 n1 x2 m0) := by
  intro n
  induction n with
  | zero => intros; exact g_none
  | succ n ih =>
    intro a0 n0 a1 n1 x2 h0 h1 m0
    exact s_X9_carry_L2B C Rr  ih a0 n0 a1 n1 x2 h0 h1 m0
set_option maxHeartbeats 2000000 in
theorem s_X9_carry {K : KT}  (C : Cx K cX9_carry RX9 3 1) (Rr : Rx K none)  (a0 n0 : Nat) (a1 n1 : Nat) (h0 : tg a0 = 100 + n0) (h1 : tg a1 = 100 + n1) (m0 : Mem) : G K 0 [(0, .ref (kf K a0)), (1, .ref (kf K a1))] [] m0 (f_X9_carry a0 n0 a1 n1 m0) := by
  unfold f_X9_carry
  refine g_iconst C (0 : Int32) dX9_carry_0 rfl ?_
  refine g_istore_n C dX9_carry_1 rfl (by decide) rfl ?_
  refine g_sub [1, 2, 0] rfl ?_
  exact s_X9_carry_L2 C Rr FU a0 n0 a1 n1 (0 : Int32) h0 h1 m0
theorem ct_X9_carry {Ω : OT} (a0 n0 : Nat) (a1 n1 : Nat) (h0 : tg a0 = 100 + n0) (h1 : tg a1 = 100 + n1) (m0 : Mem) : Ct Ω yX9_carry cX9_carry 3 none 1 [.ref (oF Ω a0), .ref (oF Ω a1)] m0 (f_X9_carry a0 n0 a1 n1 m0) := by
  refine Ct_of (by decide) (Nat.le_of_ble_eq_true rfl) ?_
  intro K hK C Rr
  subst hK
  exact s_X9_carry C Rr  a0 n0 a1 n1 h0 h1 m0
def f_X9_isShop  (a0 : Nat) (x1 : Int32) (m0 : Mem) : Res :=
  gd (inb (0 : Int32) 516) (
  cal (f_X9_in x1 (0 : Int32) ((m0 (a0 + 1) (0 : Int32).toNatClampNeg) - (1 : Int32)) m0) (fun r1 m2 =>
  gd (isb r1) (some (r1, m2))))
set_option maxHeartbeats 2000000 in
theorem s_X9_isShop {K : KT}  (C : Cx K cX9_isShop RX9 2 2) (Rr : Rx K (some .boolean))  (a0 : Nat) (x1 : Int32) (h0 : tg a0 = 9) (m0 : Mem) : G K 0 [(0, .ref (kf K a0)), (1, .int x1)] [] m0 (f_X9_isShop a0 x1 m0) := by
  unfold f_X9_isShop
  refine g_iload_n C dX9_isShop_0 1 rfl rfl ?_
  refine g_iconst C (0 : Int32) dX9_isShop_1 rfl ?_
  refine g_aload_n C dX9_isShop_2 0 rfl rfl ?_
  refine g_getr C 0 1 Fx9 h0 (by decide) rfl rfl q_919 dX9_isShop_3 ?_
  refine g_iconst C (0 : Int32) dX9_isShop_6 rfl ?_
  refine g_iald (n := 516) C (cl_9_0 h0) dX9_isShop_7 (fun _ => ?_)
  refine g_iconst C (1 : Int32) dX9_isShop_8 rfl ?_
  refine g_isub C dX9_isShop_9 ?_
  refine g_callSi C cv_X9_in q_988 (ct_X9_in x1 (0 : Int32) ((m0 (a0 + 1) (0 : Int32).toNatClampNeg) - (1 : Int32))  m0) q_987 (by decide) rfl rfl (Nat.le_of_ble_eq_true rfl) dX9_isShop_10 (fun r1 m2 => ?_)
  exact g_zret C Rr dX9_isShop_13
theorem ct_X9_isShop {Ω : OT} (a0 : Nat) (x1 : Int32) (h0 : tg a0 = 9) (m0 : Mem) : Ct Ω yX9_isShop cX9_isShop 2 (some .boolean) 2 [.ref (oF Ω a0), .int x1] m0 (f_X9_isShop a0 x1 m0) := by
  refine Ct_of (by decide) (Nat.le_of_ble_eq_true rfl) ?_
  intro K hK C Rr
  subst hK
  exact s_X9_isShop C Rr  a0 x1 h0 m0
def f_X9_isGood  (x0 : Int32) (m0 : Mem) : Res :=
  cal (f_X9_in x0 (0 : Int32) (5 : Int32) m0) (fun r1 m2 =>
  gd (isb r1) (some (r1, m2)))
set_option maxHeartbeats 2000000 in
theorem s_X9_isGood {K : KT}  (C : Cx K cX9_isGood RX9 1 2) (Rr : Rx K (some .boolean))  (x0 : Int32)  (m0 : Mem) : G K 0 [(0, .int x0)] [] m0 (f_X9_isGood x0 m0) := by
  unfold f_X9_isGood
  refine g_iload_n C dX9_isGood_0 0 rfl rfl ?_
  refine g_iconst C (0 : Int32) dX9_isGood_1 rfl ?_
  refine g_iconst C (5 : Int32) dX9_isGood_2 rfl ?_
  refine g_callSi C cv_X9_in q_988 (ct_X9_in x0 (0 : Int32) (5 : Int32)  m0) q_987 (by decide) rfl rfl (Nat.le_of_ble_eq_true rfl) dX9_isGood_3 (fun r1 m2 => ?_)
  exact g_zret C Rr dX9_isGood_6
theorem ct_X9_isGood {Ω : OT} (x0 : Int32)  (m0 : Mem) : Ct Ω yX9_isGood cX9_isGood 1 (some .boolean) 2 [.int x0] m0 (f_X9_isGood x0 m0) := by
  refine Ct_of (by decide) (Nat.le_of_ble_eq_true rfl) ?_
  intro K hK C Rr
  subst hK
  exact s_X9_isGood C Rr  x0 m0
def f_X9_isCustomer  (a0 : Nat) (x1 : Int32) (m0 : Mem) : Res :=
  gd (inb (1 : Int32) 516) (
  cal (f_X9_in x1 (0 : Int32) ((m0 (a0 + 1) (1 : Int32).toNatClampNeg) - (1 : Int32)) m0) (fun r1 m2 =>
  gd (isb r1) (some (r1, m2))))
set_option maxHeartbeats 2000000 in
theorem s_X9_isCustomer {K : KT}  (C : Cx K cX9_isCustomer RX9 2 2) (Rr : Rx K (some .boolean))  (a0 : Nat) (x1 : Int32) (h0 : tg a0 = 9) (m0 : Mem) : G K 0 [(0, .ref (kf K a0)), (1, .int x1)] [] m0 (f_X9_isCustomer a0 x1 m0) := by
  unfold f_X9_isCustomer
  refine g_iload_n C dX9_isCustomer_0 1 rfl rfl ?_
  refine g_iconst C (0 : Int32) dX9_isCustomer_1 rfl ?_
  refine g_aload_n C dX9_isCustomer_2 0 rfl rfl ?_
  refine g_getr C 0 1 Fx9 h0 (by decide) rfl rfl q_919 dX9_isCustomer_3 ?_
  refine g_iconst C (1 : Int32) dX9_isCustomer_6 rfl ?_
  refine g_iald (n := 516) C (cl_9_0 h0) dX9_isCustomer_7 (fun _ => ?_)
  refine g_iconst C (1 : Int32) dX9_isCustomer_8 rfl ?_
  refine g_isub C dX9_isCustomer_9 ?_
  refine g_callSi C cv_X9_in q_988 (ct_X9_in x1 (0 : Int32) ((m0 (a0 + 1) (1 : Int32).toNatClampNeg) - (1 : Int32))  m0) q_987 (by decide) rfl rfl (Nat.le_of_ble_eq_true rfl) dX9_isCustomer_10 (fun r1 m2 => ?_)
  exact g_zret C Rr dX9_isCustomer_13
theorem ct_X9_isCustomer {Ω : OT} (a0 : Nat) (x1 : Int32) (h0 : tg a0 = 9) (m0 : Mem) : Ct Ω yX9_isCustomer cX9_isCustomer 2 (some .boolean) 2 [.ref (oF Ω a0), .int x1] m0 (f_X9_isCustomer a0 x1 m0) := by
  refine Ct_of (by decide) (Nat.le_of_ble_eq_true rfl) ?_
  intro K hK C Rr
  subst hK
  exact s_X9_isCustomer C Rr  a0 x1 h0 m0
def f_X9_its  (a0 : Nat) (x1 : Int32) (x2 : Int32) (m0 : Mem) : Res :=
  gd (inb (((16 : Int32) + ((21 : Int32) * x1)) + x2) 516) (
  some (m0 (a0 + 1) (((16 : Int32) + ((21 : Int32) * x1)) + x2).toNatClampNeg, m0))
set_option maxHeartbeats 2000000 in
theorem s_X9_its {K : KT}  (C : Cx K cX9_its RX9 3 1) (Rr : Rx K (some .int))  (a0 : Nat) (x1 : Int32) (x2 : Int32) (h0 : tg a0 = 9) (m0 : Mem) : G K 0 [(0, .ref (kf K a0)), (1, .int x1), (2, .int x2)] [] m0 (f_X9_its a0 x1 x2 m0) := by
  unfold f_X9_its
  refine g_aload_n C dX9_its_0 0 rfl rfl ?_
  refine g_getr C 0 1 Fx9 h0 (by decide) rfl rfl q_919 dX9_its_1 ?_
  refine g_bipush C (16 : Int32) dX9_its_4 rfl ?_
  refine g_bipush C (21 : Int32) dX9_its_6 rfl ?_
  refine g_iload_n C dX9_its_8 1 rfl rfl ?_
  refine g_imul C dX9_its_9 ?_
  refine g_iadd C dX9_its_10 ?_
  refine g_iload_n C dX9_its_11 2 rfl rfl ?_
  refine g_iadd C dX9_its_12 ?_
  refine g_iald (n := 516) C (cl_9_0 h0) dX9_its_13 (fun _ => ?_)
  exact g_iret C Rr dX9_its_14
theorem ct_X9_its {Ω : OT} (a0 : Nat) (x1 : Int32) (x2 : Int32) (h0 : tg a0 = 9) (m0 : Mem) : Ct Ω yX9_its cX9_its 3 (some .int) 1 [.ref (oF Ω a0), .int x1, .int x2] m0 (f_X9_its a0 x1 x2 m0) := by
  refine Ct_of (by decide) (Nat.le_of_ble_eq_true rfl) ?_
  intro K hK C Rr
  subst hK
  exact s_X9_its C Rr  a0 x1 x2 h0 m0
def f_X9_lays1  (a0 : Nat) (x1 : Int32) (x2 : Int32) (x3 : Int32) (m0 : Mem) : Res :=
  gd (inb (((16 : Int32) + ((21 : Int32) * x1)) + x2) 516) (bnd (mset m0 (a0 + 1) (((16 : Int32) + ((21 : Int32) * x1)) + x2).toNatClampNeg x3) (fun m1 =>
  some (0, m1)))
set_option maxHeartbeats 2000000 in
theorem s_X9_lays1 {K : KT}  (C : Cx K cX9_lays1 RX9 4 1) (Rr : Rx K none)  (a0 : Nat) (x1 : Int32) (x2 : Int32) (x3 : Int32) (h0 : tg a0 = 9) (m0 : Mem) : G K 0 [(0, .ref (kf K a0)), (1, .int x1), (2, .int x2), (3, .int x3)] [] m0 (f_X9_lays1 a0 x1 x2 x3 m0) := by
  unfold f_X9_lays1
  refine g_aload_n C dX9_lays1_0 0 rfl rfl ?_
  refine g_getr C 0 1 Fx9 h0 (by decide) rfl rfl q_919 dX9_lays1_1 ?_
  refine g_bipush C (16 : Int32) dX9_lays1_4 rfl ?_
  refine g_bipush C (21 : Int32) dX9_lays1_6 rfl ?_
  refine g_iload_n C dX9_lays1_8 1 rfl rfl ?_
  refine g_imul C dX9_lays1_9 ?_
  refine g_iadd C dX9_lays1_10 ?_
  refine g_iload_n C dX9_lays1_11 2 rfl rfl ?_
  refine g_iadd C dX9_lays1_12 ?_
  refine g_iload_n C dX9_lays1_13 3 rfl rfl ?_
  refine g_iast (n := 516) C (cl_9_0 h0) dX9_lays1_14 (fun m1 => ?_)
  exact g_vret C Rr dX9_lays1_15
theorem ct_X9_lays1 {Ω : OT} (a0 : Nat) (x1 : Int32) (x2 : Int32) (x3 : Int32) (h0 : tg a0 = 9) (m0 : Mem) : Ct Ω yX9_lays1 cX9_lays1 4 none 1 [.ref (oF Ω a0), .int x1, .int x2, .int x3] m0 (f_X9_lays1 a0 x1 x2 x3 m0) := by
  refine Ct_of (by decide) (Nat.le_of_ble_eq_true rfl) ?_
  intro K hK C Rr
  subst hK
  exact s_X9_lays1 C Rr  a0 x1 x2 x3 h0 m0
def f_X9_of  (a0 : Nat) (x1 : Int32) (x2 : Int32) (m0 : Mem) : Res :=
  gd (inb (((142 : Int32) + ((4 : Int32) * x1)) + x2) 516) (
  some (m0 (a0 + 1) (((142 : Int32) + ((4 : Int32) * x1)) + x2).toNatClampNeg, m0))
set_option maxHeartbeats 2000000 in
theorem s_X9_of {K : KT}  (C : Cx K cX9_of RX9 3 1) (Rr : Rx K (some .int))  (a0 : Nat) (x1 : Int32) (x2 : Int32) (h0 : tg a0 = 9) (m0 : Mem) : G K 0 [(0, .ref (kf K a0)), (1, .int x1), (2, .int x2)] [] m0 (f_X9_of a0 x1 x2 m0) := by
  unfold f_X9_of
  refine g_aload_n C dX9_of_0 0 rfl rfl ?_
  refine g_getr C 0 1 Fx9 h0 (by decide) rfl rfl q_919 dX9_of_1 ?_
  refine g_sipush C (142 : Int32) dX9_of_4 rfl ?_
  refine g_iconst C (4 : Int32) dX9_of_7 rfl ?_
  refine g_iload_n C dX9_of_8 1 rfl rfl ?_
  refine g_imul C dX9_of_9 ?_
  refine g_iadd C dX9_of_10 ?_
  refine g_iload_n C dX9_of_11 2 rfl rfl ?_
  refine g_iadd C dX9_of_12 ?_
  refine g_iald (n := 516) C (cl_9_0 h0) dX9_of_13 (fun _ => ?_)
  exact g_iret C Rr dX9_of_14
theorem ct_X9_of {Ω : OT} (a0 : Nat) (x1 : Int32) (x2 : Int32) (h0 : tg a0 = 9) (m0 : Mem) : Ct Ω yX9_of cX9_of 3 (some .int) 1 [.ref (oF Ω a0), .int x1, .int x2] m0 (f_X9_of a0 x1 x2 m0) := by
  refine Ct_of (by decide) (Nat.le_of_ble_eq_true rfl) ?_
  intro K hK C Rr
  subst hK
  exact s_X9_of C Rr  a0 x1 x2 h0 m0
