def X9_left_J41   (xs0 : Int32) (m0 : Mem) : Res :=
  some (xs0, m0)
def f_X9_left  (a0 : Nat) (x1 : Int32) (m0 : Mem) : Res :=
  (if x1 = (-1 : Int32) then
  X9_left_J41 (-1 : Int32) m0
  else
  (if x1 ≤ 0 then
  gd (inb (4 : Int32) 516) (
  (if (m0 (a0 + 1) (4 : Int32).toNatClampNeg) = (1 : Int32) then
  gd (inb (0 : Int32) 516) (
  X9_left_J41 ((m0 (a0 + 1) (0 : Int32).toNatClampNeg) - (1 : Int32)) m0)
  else
  X9_left_J41 (-1 : Int32) m0))
  else
  X9_left_J41 (x1 - (1 : Int32)) m0))
set_option maxHeartbeats 2000000 in
theorem s_X9_left_J41 {K : KT}  (C : Cx K cX9_left RX9 2 1) (Rr : Rx K (some .int))    (xs0 : Int32)  (m0 : Mem) : G K 41 [] [.int xs0] m0 (X9_left_J41 xs0 m0) := by
  unfold X9_left_J41
  exact g_iret C Rr dX9_left_41
set_option maxHeartbeats 2000000 in
theorem s_X9_left {K : KT}  (C : Cx K cX9_left RX9 2 1) (Rr : Rx K (some .int))  (a0 : Nat) (x1 : Int32) (h0 : tg a0 = 9) (m0 : Mem) : G K 0 [(0, .ref (kf K a0)), (1, .int x1)] [] m0 (f_X9_left a0 x1 m0) := by
  unfold f_X9_left
  refine g_iload_n C dX9_left_0 1 rfl rfl ?_
  refine g_iconst C (-1 : Int32) dX9_left_1 rfl ?_
  refine g_icmp_ne C 9 dX9_left_2 (by decide) (fun _ => ?_) (fun _ => ?_)
  · refine g_iload_n C dX9_left_9 1 rfl rfl ?_
    refine g_if_le C 19 dX9_left_10 (by decide) (fun _ => ?_) (fun _ => ?_)
    · refine g_aload_n C dX9_left_19 0 rfl rfl ?_
      refine g_getr C 0 1 Fx9 h0 (by decide) rfl rfl q_919 dX9_left_20 ?_
      refine g_iconst C (4 : Int32) dX9_left_23 rfl ?_
      refine g_iald (n := 516) C (cl_9_0 h0) dX9_left_24 (fun _ => ?_)
      refine g_iconst C (1 : Int32) dX9_left_25 rfl ?_
      refine g_icmp_ne C 40 dX9_left_26 (by decide) (fun _ => ?_) (fun _ => ?_)
      · refine g_iconst C (-1 : Int32) dX9_left_40 rfl ?_
        refine g_sub [] rfl ?_
        exact s_X9_left_J41 C Rr (-1 : Int32) m0
      · refine g_aload_n C dX9_left_29 0 rfl rfl ?_
        refine g_getr C 0 1 Fx9 h0 (by decide) rfl rfl q_919 dX9_left_30 ?_
        refine g_iconst C (0 : Int32) dX9_left_33 rfl ?_
        refine g_iald (n := 516) C (cl_9_0 h0) dX9_left_34 (fun _ => ?_)
        refine g_iconst C (1 : Int32) dX9_left_35 rfl ?_
        refine g_isub C dX9_left_36 ?_
        refine g_goto C 41 dX9_left_37 (by decide) ?_
        refine g_sub [] rfl ?_
        exact s_X9_left_J41 C Rr ((m0 (a0 + 1) (0 : Int32).toNatClampNeg) - (1 : Int32)) m0
    · refine g_iload_n C dX9_left_13 1 rfl rfl ?_
      refine g_iconst C (1 : Int32) dX9_left_14 rfl ?_
      refine g_isub C dX9_left_15 ?_
      refine g_goto C 41 dX9_left_16 (by decide) ?_
      refine g_sub [] rfl ?_
      exact s_X9_left_J41 C Rr (x1 - (1 : Int32)) m0
  · refine g_iconst C (-1 : Int32) dX9_left_5 rfl ?_
    refine g_goto C 41 dX9_left_6 (by decide) ?_
    refine g_sub [] rfl ?_
    exact s_X9_left_J41 C Rr (-1 : Int32) m0
theorem ct_X9_left {Ω : OT} (a0 : Nat) (x1 : Int32) (h0 : tg a0 = 9) (m0 : Mem) : Ct Ω yX9_left cX9_left 2 (some .int) 1 [.ref (oF Ω a0), .int x1] m0 (f_X9_left a0 x1 m0) := by
  refine Ct_of (by decide) (Nat.le_of_ble_eq_true rfl) ?_
  intro K hK C Rr
  subst hK
  exact s_X9_left C Rr  a0 x1 h0 m0
def X9_lacks1_J21   (xs0 : Int32) (m0 : Mem) : Res :=
  gd (isb xs0) (some (xs0, m0))
def X9_lacks1_J16    (m0 : Mem) : Res :=
  X9_lacks1_J21 (1 : Int32) m0
def f_X9_lacks1  (a0 : Nat) (x1 : Int32) (x2 : Int32) (x3 : Int32) (m0 : Mem) : Res :=
  (if x1 = (-1 : Int32) then
  X9_lacks1_J16 m0
  else
  cal (f_X9_its a0 x1 (x3 + x2) m0) (fun r1 m2 =>
  (if r1 = 0 then
  X9_lacks1_J16 m2
  else
  X9_lacks1_J21 (0 : Int32) m2)))
set_option maxHeartbeats 2000000 in
theorem s_X9_lacks1_J21 {K : KT}  (C : Cx K cX9_lacks1 RX9 4 2) (Rr : Rx K (some .boolean))    (xs0 : Int32)  (m0 : Mem) : G K 21 [] [.int xs0] m0 (X9_lacks1_J21 xs0 m0) := by
  unfold X9_lacks1_J21
  exact g_zret C Rr dX9_lacks1_21
set_option maxHeartbeats 2000000 in
theorem s_X9_lacks1_J16 {K : KT}  (C : Cx K cX9_lacks1 RX9 4 2) (Rr : Rx K (some .boolean))      (m0 : Mem) : G K 16 [] [] m0 (X9_lacks1_J16 m0) := by
  unfold X9_lacks1_J16
  refine g_iconst C (1 : Int32) dX9_lacks1_16 rfl ?_
  refine g_goto C 21 dX9_lacks1_17 (by decide) ?_
  refine g_sub [] rfl ?_
  exact s_X9_lacks1_J21 C Rr (1 : Int32) m0
set_option maxHeartbeats 2000000 in
theorem s_X9_lacks1 {K : KT}  (C : Cx K cX9_lacks1 RX9 4 2) (Rr : Rx K (some .boolean))  (a0 : Nat) (x1 : Int32) (x2 : Int32) (x3 : Int32) (h0 : tg a0 = 9) (m0 : Mem) : G K 0 [(0, .ref (kf K a0)), (1, .int x1), (2, .int x2), (3, .int x3)] [] m0 (f_X9_lacks1 a0 x1 x2 x3 m0) := by
  unfold f_X9_lacks1
  refine g_iload_n C dX9_lacks1_0 1 rfl rfl ?_
  refine g_iconst C (-1 : Int32) dX9_lacks1_1 rfl ?_
  refine g_icmp_eq C 16 dX9_lacks1_2 (by decide) (fun _ => ?_) (fun _ => ?_)
  · refine g_sub [] rfl ?_
    exact s_X9_lacks1_J16 C Rr m0
  · refine g_aload_n C dX9_lacks1_5 0 rfl rfl ?_
    refine g_iload_n C dX9_lacks1_6 1 rfl rfl ?_
    refine g_iload_n C dX9_lacks1_7 3 rfl rfl ?_
    refine g_iload_n C dX9_lacks1_8 2 rfl rfl ?_
    refine g_iadd C dX9_lacks1_9 ?_
    refine g_callVi C cv_X9_its (ct_X9_its a0 x1 (x3 + x2) h0 m0) q_1031 h0 (by decide) rfl rfl (Nat.le_of_ble_eq_true rfl) dX9_lacks1_10 (fun r1 m2 => ?_)
    refine g_if_ne C 20 dX9_lacks1_13 (by decide) (fun _ => ?_) (fun _ => ?_)
    · refine g_iconst C (0 : Int32) dX9_lacks1_20 rfl ?_
      refine g_sub [] rfl ?_
      exact s_X9_lacks1_J21 C Rr (0 : Int32) m2
    · refine g_sub [] rfl ?_
      exact s_X9_lacks1_J16 C Rr m2
theorem ct_X9_lacks1 {Ω : OT} (a0 : Nat) (x1 : Int32) (x2 : Int32) (x3 : Int32) (h0 : tg a0 = 9) (m0 : Mem) : Ct Ω yX9_lacks1 cX9_lacks1 4 (some .boolean) 2 [.ref (oF Ω a0), .int x1, .int x2, .int x3] m0 (f_X9_lacks1 a0 x1 x2 x3 m0) := by
  refine Ct_of (by decide) (Nat.le_of_ble_eq_true rfl) ?_
  intro K hK C Rr
  subst hK
  exact s_X9_lacks1 C Rr  a0 x1 x2 x3 h0 m0
def X9_may_J106   (x4 : Int32) (m0 : Mem) : Res :=
  gd (isb x4) (some (x4, m0))
def X9_may_J104   (xs0 : Int32) (m0 : Mem) : Res :=
  X9_may_J106 xs0 m0
def X9_may_J103    (m0 : Mem) : Res :=
  X9_may_J104 (0 : Int32) m0
def X9_may_J73   (a0 : Nat) (x2 : Int32) (x3 : Int32) (x4 : Int32) (m0 : Mem) : Res :=
  gd (inb (5 : Int32) 516) (
  (if (m0 (a0 + 1) (5 : Int32).toNatClampNeg) = (2 : Int32) then
  (if x4 = 0 then
  X9_may_J103 m0
  else
  cal (f_X9_lacks1 a0 x3 x2 (15 : Int32) m0) (fun r1 m2 =>
  (if r1 = 0 then
  X9_may_J103 m2
  else
  X9_may_J104 (1 : Int32) m2)))
  else
  X9_may_J106 x4 m0))
def X9_may_J71   (a0 : Nat) (x2 : Int32) (x3 : Int32) (xs0 : Int32) (m0 : Mem) : Res :=
  X9_may_J73 a0 x2 x3 xs0 m0
def X9_may_J70   (a0 : Nat) (x2 : Int32) (x3 : Int32) (m0 : Mem) : Res :=
  X9_may_J71 a0 x2 x3 (0 : Int32) m0
def X9_may_J34   (a0 : Nat) (x2 : Int32) (x3 : Int32) (xs0 : Int32) (m0 : Mem) : Res :=
  gd (inb (5 : Int32) 516) (
  (if (m0 (a0 + 1) (5 : Int32).toNatClampNeg) = (1 : Int32) then
  (if xs0 = 0 then
  X9_may_J70 a0 x2 x3 m0
  else
  cal (f_X9_left a0 x3 m0) (fun r1 m2 =>
  cal (f_X9_lacks1 a0 r1 x2 (9 : Int32) m2) (fun r3 m4 =>
  (if r3 = 0 then
  X9_may_J70 a0 x2 x3 m4
  else
  X9_may_J71 a0 x2 x3 (1 : Int32) m4))))
  else
  X9_may_J73 a0 x2 x3 xs0 m0))
def X9_may_J33   (a0 : Nat) (x2 : Int32) (x3 : Int32) (m0 : Mem) : Res :=
  X9_may_J34 a0 x2 x3 (0 : Int32) m0
def f_X9_may  (a0 : Nat) (x1 : Int32) (x2 : Int32) (m0 : Mem) : Res :=
  cal (f_X9_left a0 x1 m0) (fun r1 m2 =>
  cal (f_X9_its a0 x1 ((9 : Int32) + x2) m2) (fun r3 m4 =>
  (if r3 ≤ 0 then
  X9_may_J33 a0 x2 r1 m4
  else
  cal (f_X9_lacks1 a0 r1 x2 (9 : Int32) m4) (fun r5 m6 =>
  (if r5 = 0 then
  X9_may_J33 a0 x2 r1 m6
  else
  X9_may_J34 a0 x2 r1 (1 : Int32) m6)))))
set_option maxHeartbeats 2000000 in
theorem s_X9_may_J106 {K : KT}  (C : Cx K cX9_may RX9 5 3) (Rr : Rx K (some .boolean))    (x4 : Int32)  (m0 : Mem) : G K 106 [(4, .int x4)] [] m0 (X9_may_J106 x4 m0) := by
  unfold X9_may_J106
  refine g_iload C dX9_may_106 0 rfl ?_
  exact g_zret C Rr dX9_may_108
set_option maxHeartbeats 2000000 in
theorem s_X9_may_J104 {K : KT}  (C : Cx K cX9_may RX9 5 3) (Rr : Rx K (some .boolean))    (xs0 : Int32)  (m0 : Mem) : G K 104 [] [.int xs0] m0 (X9_may_J104 xs0 m0) := by
  unfold X9_may_J104
  refine g_istore C dX9_may_104 (by decide) rfl ?_
  refine g_sub [0] rfl ?_
  exact s_X9_may_J106 C Rr xs0 m0
set_option maxHeartbeats 2000000 in
theorem s_X9_may_J103 {K : KT}  (C : Cx K cX9_may RX9 5 3) (Rr : Rx K (some .boolean))      (m0 : Mem) : G K 103 [] [] m0 (X9_may_J103 m0) := by
  unfold X9_may_J103
  refine g_iconst C (0 : Int32) dX9_may_103 rfl ?_
  refine g_sub [] rfl ?_
  exact s_X9_may_J104 C Rr (0 : Int32) m0
set_option maxHeartbeats 2000000 in
theorem s_X9_may_J73 {K : KT}  (C : Cx K cX9_may RX9 5 3) (Rr : Rx K (some .boolean))    (a0 : Nat) (x2 : Int32) (x3 : Int32) (x4 : Int32) (h0 : tg a0 = 9) (m0 : Mem) : G K 73 [(0, .ref (kf K a0)), (2, .int x2), (3, .int x3), (4, .int x4)] [] m0 (X9_may_J73 a0 x2 x3 x4 m0) := by
  unfold X9_may_J73
  refine g_aload_n C dX9_may_73 0 rfl rfl ?_
  refine g_getr C 0 1 Fx9 h0 (by decide) rfl rfl q_919 dX9_may_74 ?_
  refine g_iconst C (5 : Int32) dX9_may_77 rfl ?_
  refine g_iald (n := 516) C (cl_9_0 h0) dX9_may_78 (fun _ => ?_)
  refine g_iconst C (2 : Int32) dX9_may_79 rfl ?_
  refine g_icmp_ne C 106 dX9_may_80 (by decide) (fun _ => ?_) (fun _ => ?_)
  · refine g_sub [3] rfl ?_
    exact s_X9_may_J106 C Rr x4 m0
  · refine g_iload C dX9_may_83 3 rfl ?_
    refine g_if_eq C 103 dX9_may_85 (by decide) (fun _ => ?_) (fun _ => ?_)
    · refine g_sub [] rfl ?_
      exact s_X9_may_J103 C Rr m0
    · refine g_aload_n C dX9_may_88 0 rfl rfl ?_
      refine g_iload_n C dX9_may_89 2 rfl rfl ?_
      refine g_iload_n C dX9_may_90 1 rfl rfl ?_
      refine g_bipush C (15 : Int32) dX9_may_91 rfl ?_
      refine g_callVi C cv_X9_lacks1 (ct_X9_lacks1 a0 x3 x2 (15 : Int32) h0 m0) q_1035 h0 (by decide) rfl rfl (Nat.le_of_ble_eq_true rfl) dX9_may_93 (fun r1 m2 => ?_)
      refine g_if_eq C 103 dX9_may_96 (by decide) (fun _ => ?_) (fun _ => ?_)
      · refine g_sub [] rfl ?_
        exact s_X9_may_J103 C Rr m2
      · refine g_iconst C (1 : Int32) dX9_may_99 rfl ?_
        refine g_goto C 104 dX9_may_100 (by decide) ?_
        refine g_sub [] rfl ?_
        exact s_X9_may_J104 C Rr (1 : Int32) m2
set_option maxHeartbeats 2000000 in
theorem s_X9_may_J71 {K : KT}  (C : Cx K cX9_may RX9 5 3) (Rr : Rx K (some .boolean))    (a0 : Nat) (x2 : Int32) (x3 : Int32) (xs0 : Int32) (h0 : tg a0 = 9) (m0 : Mem) : G K 71 [(0, .ref (kf K a0)), (2, .int x2), (3, .int x3)] [.int xs0] m0 (X9_may_J71 a0 x2 x3 xs0 m0) := by
  unfold X9_may_J71
  refine g_istore C dX9_may_71 (by decide) rfl ?_
  refine g_sub [1, 2, 3, 0] rfl ?_
  exact s_X9_may_J73 C Rr a0 x2 x3 xs0 h0 m0
set_option maxHeartbeats 2000000 in
theorem s_X9_may_J70 {K : KT}  (C : Cx K cX9_may RX9 5 3) (Rr : Rx K (some .boolean))    (a0 : Nat) (x2 : Int32) (x3 : Int32) (h0 : tg a0 = 9) (m0 : Mem) : G K 70 [(0, .ref (kf K a0)), (2, .int x2), (3, .int x3)] [] m0 (X9_may_J70 a0 x2 x3 m0) := by
  unfold X9_may_J70
  refine g_iconst C (0 : Int32) dX9_may_70 rfl ?_
  refine g_sub [0, 1, 2] rfl ?_
  exact s_X9_may_J71 C Rr a0 x2 x3 (0 : Int32) h0 m0
set_option maxHeartbeats 2000000 in
theorem s_X9_may_J34 {K : KT}  (C : Cx K cX9_may RX9 5 3) (Rr : Rx K (some .boolean))    (a0 : Nat) (x2 : Int32) (x3 : Int32) (xs0 : Int32) (h0 : tg a0 = 9) (m0 : Mem) : G K 34 [(0, .ref (kf K a0)), (2, .int x2), (3, .int x3)] [.int xs0] m0 (X9_may_J34 a0 x2 x3 xs0 m0) := by
  unfold X9_may_J34
  refine g_istore C dX9_may_34 (by decide) rfl ?_
  refine g_aload_n C dX9_may_36 1 rfl rfl ?_
  refine g_getr C 0 1 Fx9 h0 (by decide) rfl rfl q_919 dX9_may_37 ?_
  refine g_iconst C (5 : Int32) dX9_may_40 rfl ?_
  refine g_iald (n := 516) C (cl_9_0 h0) dX9_may_41 (fun _ => ?_)
  refine g_iconst C (1 : Int32) dX9_may_42 rfl ?_
  refine g_icmp_ne C 73 dX9_may_43 (by decide) (fun _ => ?_) (fun _ => ?_)
  · refine g_sub [1, 2, 3, 0] rfl ?_
    exact s_X9_may_J73 C Rr a0 x2 x3 xs0 h0 m0
  · refine g_iload C dX9_may_46 0 rfl ?_
    refine g_if_eq C 70 dX9_may_48 (by decide) (fun _ => ?_) (fun _ => ?_)
    · refine g_sub [1, 2, 3] rfl ?_
      exact s_X9_may_J70 C Rr a0 x2 x3 h0 m0
    · refine g_aload_n C dX9_may_51 1 rfl rfl ?_
      refine g_aload_n C dX9_may_52 1 rfl rfl ?_
      refine g_iload_n C dX9_may_53 3 rfl rfl ?_
      refine g_callVi C cv_X9_left (ct_X9_left a0 x3 h0 m0) q_1027 h0 (by decide) rfl rfl (Nat.le_of_ble_eq_true rfl) dX9_may_54 (fun r1 m2 => ?_)
      refine g_iload_n C dX9_may_57 2 rfl rfl ?_
      refine g_bipush C (9 : Int32) dX9_may_58 rfl ?_
      refine g_callVi C cv_X9_lacks1 (ct_X9_lacks1 a0 r1 x2 (9 : Int32) h0 m2) q_1035 h0 (by decide) rfl rfl (Nat.le_of_ble_eq_true rfl) dX9_may_60 (fun r3 m4 => ?_)
      refine g_if_eq C 70 dX9_may_63 (by decide) (fun _ => ?_) (fun _ => ?_)
      · refine g_sub [1, 2, 3] rfl ?_
        exact s_X9_may_J70 C Rr a0 x2 x3 h0 m4
      · refine g_iconst C (1 : Int32) dX9_may_66 rfl ?_
        refine g_goto C 71 dX9_may_67 (by decide) ?_
        refine g_sub [1, 2, 3] rfl ?_
        exact s_X9_may_J71 C Rr a0 x2 x3 (1 : Int32) h0 m4
set_option maxHeartbeats 2000000 in
theorem s_X9_may_J33 {K : KT}  (C : Cx K cX9_may RX9 5 3) (Rr : Rx K (some .boolean))    (a0 : Nat) (x2 : Int32) (x3 : Int32) (h0 : tg a0 = 9) (m0 : Mem) : G K 33 [(0, .ref (kf K a0)), (2, .int x2), (3, .int x3)] [] m0 (X9_may_J33 a0 x2 x3 m0) := by
  unfold X9_may_J33
  refine g_iconst C (0 : Int32) dX9_may_33 rfl ?_
  refine g_sub [0, 1, 2] rfl ?_
  exact s_X9_may_J34 C Rr a0 x2 x3 (0 : Int32) h0 m0
set_option maxHeartbeats 2000000 in
theorem s_X9_may {K : KT}  (C : Cx K cX9_may RX9 5 3) (Rr : Rx K (some .boolean))  (a0 : Nat) (x1 : Int32) (x2 : Int32) (h0 : tg a0 = 9) (m0 : Mem) : G K 0 [(0, .ref (kf K a0)), (1, .int x1), (2, .int x2)] [] m0 (f_X9_may a0 x1 x2 m0) := by
  unfold f_X9_may
  refine g_aload_n C dX9_may_0 0 rfl rfl ?_
  refine g_iload_n C dX9_may_1 1 rfl rfl ?_
  refine g_callVi C cv_X9_left (ct_X9_left a0 x1 h0 m0) q_1027 h0 (by decide) rfl rfl (Nat.le_of_ble_eq_true rfl) dX9_may_2 (fun r1 m2 => ?_)
  refine g_istore_n C dX9_may_5 rfl (by decide) rfl ?_
  refine g_aload_n C dX9_may_6 1 rfl rfl ?_
  refine g_iload_n C dX9_may_7 2 rfl rfl ?_
  refine g_bipush C (9 : Int32) dX9_may_8 rfl ?_
  refine g_iload_n C dX9_may_10 3 rfl rfl ?_
  refine g_iadd C dX9_may_11 ?_
  refine g_callVi C cv_X9_its (ct_X9_its a0 x1 ((9 : Int32) + x2) h0 m2) q_1031 h0 (by decide) rfl rfl (Nat.le_of_ble_eq_true rfl) dX9_may_12 (fun r3 m4 => ?_)
  refine g_if_le C 33 dX9_may_15 (by decide) (fun _ => ?_) (fun _ => ?_)
  · refine g_sub [1, 3, 0] rfl ?_
    exact s_X9_may_J33 C Rr a0 x2 r1 h0 m4
  · refine g_aload_n C dX9_may_18 1 rfl rfl ?_
    refine g_iload_n C dX9_may_19 0 rfl rfl ?_
    refine g_iload_n C dX9_may_20 3 rfl rfl ?_
    refine g_bipush C (9 : Int32) dX9_may_21 rfl ?_
    refine g_callVi C cv_X9_lacks1 (ct_X9_lacks1 a0 r1 x2 (9 : Int32) h0 m4) q_1035 h0 (by decide) rfl rfl (Nat.le_of_ble_eq_true rfl) dX9_may_23 (fun r5 m6 => ?_)
    refine g_if_eq C 33 dX9_may_26 (by decide) (fun _ => ?_) (fun _ => ?_)
    · refine g_sub [1, 3, 0] rfl ?_
      exact s_X9_may_J33 C Rr a0 x2 r1 h0 m6
    · refine g_iconst C (1 : Int32) dX9_may_29 rfl ?_
      refine g_goto C 34 dX9_may_30 (by decide) ?_
      refine g_sub [1, 3, 0] rfl ?_
      exact s_X9_may_J34 C Rr a0 x2 r1 (1 : Int32) h0 m6
theorem ct_X9_may {Ω : OT} (a0 : Nat) (x1 : Int32) (x2 : Int32) (h0 : tg a0 = 9) (m0 : Mem) : Ct Ω yX9_may cX9_may 5 (some .boolean) 3 [.ref (oF Ω a0), .int x1, .int x2] m0 (f_X9_may a0 x1 x2 m0) := by
  refine Ct_of (by decide) (Nat.le_of_ble_eq_true rfl) ?_
  intro K hK C Rr
  subst hK
  exact s_X9_may C Rr  a0 x1 x2 h0 m0
def X9_maySell_J27  (k4 : Nat → Int32 → Int32 → Int32 → Mem → Res) (a0 : Nat) (x1 : Int32) (x3 : Int32) (xs0 : Int32) (xs1 : Int32) (m0 : Mem) : Res :=
  bnd (xs0 ||| xs1) (fun y1 =>
  bnd (x3 + (1 : Int32)) (fun y2 =>
  k4 a0 x1 y1 y2 m0))
def X9_maySell_L4B  (k4 : Nat → Int32 → Int32 → Int32 → Mem → Res) (a0 : Nat) (x1 : Int32) (x2 : Int32) (x3 : Int32) (m0 : Mem) : Res :=
  (if (6 : Int32) ≤ x3 then
  some (x2, m0)
  else
  cal (f_X9_may a0 x1 x3 m0) (fun r1 m2 =>
  (if r1 = 0 then
  X9_maySell_J27 k4 a0 x1 x3 x2 (0 : Int32) m2
  else
  X9_maySell_J27 k4 a0 x1 x3 x2 (isl (1 : Int32) x3) m2)))
def X9_maySell_L4   : Nat → Nat → Int32 → Int32 → Int32 → Mem → Res
  | 0 => fun _ _ _ _ _ => none
  | n + 1 => X9_maySell_L4B (X9_maySell_L4 n)
def f_X9_maySell  (a0 : Nat) (x1 : Int32) (m0 : Mem) : Res :=
  X9_maySell_L4 FU a0 x1 (0 : Int32) (0 : Int32) m0
set_option maxHeartbeats 2000000 in
theorem s_X9_maySell_J27 {K : KT}  (C : Cx K cX9_maySell RX9 4 4) (Rr : Rx K (some .int))  {k4 : Nat → Int32 → Int32 → Int32 → Mem → Res} (hk4 : ∀ (a0 : Nat) (x1 : Int32) (x2 : Int32) (x3 : Int32) (h0 : tg a0 = 9) (m0 : Mem), G K 4 [(0, .ref (kf K a0)), (1, .int x1), (2, .int x2), (3, .int x3)] [] m0 (k4 a0 x1 x2 x3 m0)) (a0 : Nat) (x1 : Int32) (x3 : Int32) (xs0 : Int32) (xs1 : Int32) (h0 : tg a0 = 9) (m0 : Mem) : G K 27 [(0, .ref (kf K a0)), (1, .int x1), (3, .int x3)] [.int xs1, .int xs0] m0 (X9_maySell_J27 k4 a0 x1 x3 xs0 xs1 m0) := by
  unfold X9_maySell_J27
  refine g_ior C dX9_maySell_27 ?_
  refine g_bnd (fun y1 => ?_)
  refine g_istore_n C dX9_maySell_28 rfl (by decide) rfl ?_
  refine g_iinc (k := 3) C dX9_maySell_29 rfl (w := (1 : Int32)) rfl (by decide) (fun v_ => [(3, .int v_), (2, .int y1), (0, .ref (kf K a0)), (1, .int x1)]) (fun _ => rfl) (fun y2 => ?_)
  refine g_goto C 4 dX9_maySell_32 (by decide) ?_
  refine g_sub [2, 3, 1, 0] rfl ?_
  exact hk4 a0 x1 y1 y2 h0 m0
set_option maxHeartbeats 2000000 in
theorem s_X9_maySell_L4B {K : KT}  (C : Cx K cX9_maySell RX9 4 4) (Rr : Rx K (some .int))  {k4 : Nat → Int32 → Int32 → Int32 → Mem → Res} (hk4 : ∀ (a0 : Nat) (x1 : Int32) (x2 : Int32) (x3 : Int32) (h0 : tg a0 = 9) (m0 : Mem), G K 4 [(0, .ref (kf K a0)), (1, .int x1), (2, .int x2), (3, .int x3)] [] m0 (k4 a0 x1 x2 x3 m0)) (a0 : Nat) (x1 : Int32) (x2 : Int32) (x3 : Int32) (h0 : tg a0 = 9) (m0 : Mem) : G K 4 [(0, .ref (kf K a0)), (1, .int x1), (2, .int x2), (3, .int x3)] [] m0 (X9_maySell_L4B k4 a0 x1 x2 x3 m0) := by
  unfold X9_maySell_L4B
  refine g_iload_n C dX9_maySell_4 3 rfl rfl ?_
  refine g_bipush C (6 : Int32) dX9_maySell_5 rfl ?_
  refine g_icmp_ge C 35 dX9_maySell_7 (by decide) (fun _ => ?_) (fun _ => ?_)
  · refine g_iload_n C dX9_maySell_35 2 rfl rfl ?_
    exact g_iret C Rr dX9_maySell_36
  · refine g_iload_n C dX9_maySell_10 2 rfl rfl ?_
    refine g_aload_n C dX9_maySell_11 0 rfl rfl ?_
    refine g_iload_n C dX9_maySell_12 1 rfl rfl ?_
    refine g_iload_n C dX9_maySell_13 3 rfl rfl ?_
    refine g_callVi C cv_X9_may (ct_X9_may a0 x1 x3 h0 m0) q_1023 h0 (by decide) rfl rfl (Nat.le_of_ble_eq_true rfl) dX9_maySell_14 (fun r1 m2 => ?_)
    refine g_if_eq C 26 dX9_maySell_17 (by decide) (fun _ => ?_) (fun _ => ?_)
    · refine g_iconst C (0 : Int32) dX9_maySell_26 rfl ?_
      refine g_sub [0, 1, 3] rfl ?_
      exact s_X9_maySell_J27 C Rr hk4 a0 x1 x3 x2 (0 : Int32) h0 m2
    · refine g_iconst C (1 : Int32) dX9_maySell_20 rfl ?_
      refine g_iload_n C dX9_maySell_21 3 rfl rfl ?_
      refine g_ishl C dX9_maySell_22 ?_
      refine g_goto C 27 dX9_maySell_23 (by decide) ?_
      refine g_sub [0, 1, 3] rfl ?_
      exact s_X9_maySell_J27 C Rr hk4 a0 x1 x3 x2 (isl (1 : Int32) x3) h0 m2
theorem s_X9_maySell_L4 {K : KT}  (C : Cx K cX9_maySell RX9 4 4) (Rr : Rx K (some .int))    : ∀ (n : Nat) (a0 : Nat) (x1 : Int32) (x2 : Int32) (x3 : Int32) (h0 : tg a0 = 9) (m0 : Mem), G K 4 [(0, .ref (kf K a0)), (1, .int x1), (2, .int x2), (3, .int x3)] [] m0 (X9_maySell_L4 n a0 x1 x2 x3 m0) := by
  intro n
  induction n with
  | zero => intros; exact g_none
  | succ n ih =>
    intro a0 x1 x2 x3 h0 m0
    exact s_X9_maySell_L4B C Rr  ih a0 x1 x2 x3 h0 m0
set_option maxHeartbeats 2000000 in
theorem s_X9_maySell {K : KT}  (C : Cx K cX9_maySell RX9 4 4) (Rr : Rx K (some .int))  (a0 : Nat) (x1 : Int32) (h0 : tg a0 = 9) (m0 : Mem) : G K 0 [(0, .ref (kf K a0)), (1, .int x1)] [] m0 (f_X9_maySell a0 x1 m0) := by
  unfold f_X9_maySell
  refine g_iconst C (0 : Int32) dX9_maySell_0 rfl ?_
  refine g_istore_n C dX9_maySell_1 rfl (by decide) rfl ?_
  refine g_iconst C (0 : Int32) dX9_maySell_2 rfl ?_
  refine g_istore_n C dX9_maySell_3 rfl (by decide) rfl ?_
  refine g_sub [2, 3, 1, 0] rfl ?_
  exact s_X9_maySell_L4 C Rr FU a0 x1 (0 : Int32) (0 : Int32) h0 m0
theorem ct_X9_maySell {Ω : OT} (a0 : Nat) (x1 : Int32) (h0 : tg a0 = 9) (m0 : Mem) : Ct Ω yX9_maySell cX9_maySell 4 (some .int) 4 [.ref (oF Ω a0), .int x1] m0 (f_X9_maySell a0 x1 m0) := by
  refine Ct_of (by decide) (Nat.le_of_ble_eq_true rfl) ?_
  intro K hK C Rr
  subst hK
  exact s_X9_maySell C Rr  a0 x1 h0 m0
def X9_cost_J17   (a0 : Nat) (m0 : Mem) : Res :=
  cal (f_X9_error a0 (1 : Int32) m0) (fun r1 m2 =>
  some (r1, m2))
def f_X9_cost  (a0 : Nat) (x1 : Int32) (x2 : Int32) (m0 : Mem) : Res :=
  cal (f_X9_isGood x1 m0) (fun r1 m2 =>
  (if r1 = 0 then
  X9_cost_J17 a0 m2
  else
  cal (f_X9_in x2 (0 : Int32) (99 : Int32) m2) (fun r3 m4 =>
  (if r3 = 0 then
  X9_cost_J17 a0 m4
  else
  gd (inb ((10 : Int32) + x1) 516) (
  bnd (m4 (a0 + 1) ((10 : Int32) + x1).toNatClampNeg) (fun y5 =>
  gd (inb ((10 : Int32) + x1) 516) (bnd (mset m4 (a0 + 1) ((10 : Int32) + x1).toNatClampNeg x2) (fun m6 =>
  some (y5, m6)))))))))
set_option maxHeartbeats 2000000 in
theorem s_X9_cost_J17 {K : KT}  (C : Cx K cX9_cost RX9 4 3) (Rr : Rx K (some .int))    (a0 : Nat) (h0 : tg a0 = 9) (m0 : Mem) : G K 17 [(0, .ref (kf K a0))] [] m0 (X9_cost_J17 a0 m0) := by
  unfold X9_cost_J17
  refine g_aload_n C dX9_cost_17 0 rfl rfl ?_
  refine g_iconst C (1 : Int32) dX9_cost_18 rfl ?_
  refine g_callVi C cv_X9_error (ct_X9_error a0 (1 : Int32) h0 m0) q_990 h0 (by decide) rfl rfl (Nat.le_of_ble_eq_true rfl) dX9_cost_19 (fun r1 m2 => ?_)
  exact g_iret C Rr dX9_cost_22
set_option maxHeartbeats 2000000 in
theorem s_X9_cost {K : KT}  (C : Cx K cX9_cost RX9 4 3) (Rr : Rx K (some .int))  (a0 : Nat) (x1 : Int32) (x2 : Int32) (h0 : tg a0 = 9) (m0 : Mem) : G K 0 [(0, .ref (kf K a0)), (1, .int x1), (2, .int x2)] [] m0 (f_X9_cost a0 x1 x2 m0) := by
  unfold f_X9_cost
  refine g_iload_n C dX9_cost_0 1 rfl rfl ?_
  refine g_callSi C cv_X9_isGood q_985 (ct_X9_isGood x1  m0) q_984 (by decide) rfl rfl (Nat.le_of_ble_eq_true rfl) dX9_cost_1 (fun r1 m2 => ?_)
  refine g_if_eq C 17 dX9_cost_4 (by decide) (fun _ => ?_) (fun _ => ?_)
  · refine g_sub [0] rfl ?_
    exact s_X9_cost_J17 C Rr a0 h0 m2
  · refine g_iload_n C dX9_cost_7 2 rfl rfl ?_
    refine g_iconst C (0 : Int32) dX9_cost_8 rfl ?_
    refine g_bipush C (99 : Int32) dX9_cost_9 rfl ?_
    refine g_callSi C cv_X9_in q_988 (ct_X9_in x2 (0 : Int32) (99 : Int32)  m2) q_987 (by decide) rfl rfl (Nat.le_of_ble_eq_true rfl) dX9_cost_11 (fun r3 m4 => ?_)
    refine g_if_ne C 23 dX9_cost_14 (by decide) (fun _ => ?_) (fun _ => ?_)
    · refine g_aload_n C dX9_cost_23 0 rfl rfl ?_
      refine g_getr C 0 1 Fx9 h0 (by decide) rfl rfl q_919 dX9_cost_24 ?_
      refine g_bipush C (10 : Int32) dX9_cost_27 rfl ?_
      refine g_iload_n C dX9_cost_29 1 rfl rfl ?_
      refine g_iadd C dX9_cost_30 ?_
      refine g_iald (n := 516) C (cl_9_0 h0) dX9_cost_31 (fun _ => ?_)
      refine g_bnd (fun y5 => ?_)
      refine g_istore_n C dX9_cost_32 rfl (by decide) rfl ?_
      refine g_aload_n C dX9_cost_33 1 rfl rfl ?_
      refine g_getr C 0 1 Fx9 h0 (by decide) rfl rfl q_919 dX9_cost_34 ?_
      refine g_bipush C (10 : Int32) dX9_cost_37 rfl ?_
      refine g_iload_n C dX9_cost_39 2 rfl rfl ?_
      refine g_iadd C dX9_cost_40 ?_
      refine g_iload_n C dX9_cost_41 3 rfl rfl ?_
      refine g_iast (n := 516) C (cl_9_0 h0) dX9_cost_42 (fun m6 => ?_)
      refine g_iload_n C dX9_cost_43 0 rfl rfl ?_
      exact g_iret C Rr dX9_cost_44
    · refine g_sub [0] rfl ?_
      exact s_X9_cost_J17 C Rr a0 h0 m4
theorem ct_X9_cost {Ω : OT} (a0 : Nat) (x1 : Int32) (x2 : Int32) (h0 : tg a0 = 9) (m0 : Mem) : Ct Ω yX9_cost cX9_cost 4 (some .int) 3 [.ref (oF Ω a0), .int x1, .int x2] m0 (f_X9_cost a0 x1 x2 m0) := by
  refine Ct_of (by decide) (Nat.le_of_ble_eq_true rfl) ?_
  intro K hK C Rr
  subst hK
  exact s_X9_cost C Rr  a0 x1 x2 h0 m0
def X9_rule_J26   (a0 : Nat) (m0 : Mem) : Res :=
  cal (f_X9_error a0 (1 : Int32) m0) (fun r1 m2 =>
  some (r1, m2))
def X9_rule_J20   (a0 : Nat) (x1 : Int32) (x2 : Int32) (xs0 : Int32) (xs1 : Int32) (xs2 : Int32) (m0 : Mem) : Res :=
  cal (f_X9_in xs0 xs1 xs2 m0) (fun r1 m2 =>
  (if r1 = 0 then
  X9_rule_J26 a0 m2
  else
  gd (inb ((4 : Int32) + x1) 516) (
  bnd (m2 (a0 + 1) ((4 : Int32) + x1).toNatClampNeg) (fun y3 =>
  gd (inb ((4 : Int32) + x1) 516) (bnd (mset m2 (a0 + 1) ((4 : Int32) + x1).toNatClampNeg x2) (fun m4 =>
  some (y3, m4)))))))
def f_X9_rule  (a0 : Nat) (x1 : Int32) (x2 : Int32) (m0 : Mem) : Res :=
  cal (f_X9_in x1 (0 : Int32) (1 : Int32) m0) (fun r1 m2 =>
  (if r1 = 0 then
  X9_rule_J26 a0 m2
  else
  (if x1 = 0 then
  X9_rule_J20 a0 x1 x2 x2 (0 : Int32) (1 : Int32) m2
  else
  X9_rule_J20 a0 x1 x2 x2 (0 : Int32) (2 : Int32) m2)))
set_option maxHeartbeats 2000000 in
theorem s_X9_rule_J26 {K : KT}  (C : Cx K cX9_rule RX9 4 2) (Rr : Rx K (some .int))    (a0 : Nat) (h0 : tg a0 = 9) (m0 : Mem) : G K 26 [(0, .ref (kf K a0))] [] m0 (X9_rule_J26 a0 m0) := by
  unfold X9_rule_J26
  refine g_aload_n C dX9_rule_26 0 rfl rfl ?_
  refine g_iconst C (1 : Int32) dX9_rule_27 rfl ?_
  refine g_callVi C cv_X9_error (ct_X9_error a0 (1 : Int32) h0 m0) q_990 h0 (by decide) rfl rfl (Nat.le_of_ble_eq_true rfl) dX9_rule_28 (fun r1 m2 => ?_)
  exact g_iret C Rr dX9_rule_31
set_option maxHeartbeats 2000000 in
theorem s_X9_rule_J20 {K : KT}  (C : Cx K cX9_rule RX9 4 2) (Rr : Rx K (some .int))    (a0 : Nat) (x1 : Int32) (x2 : Int32) (xs0 : Int32) (xs1 : Int32) (xs2 : Int32) (h0 : tg a0 = 9) (m0 : Mem) : G K 20 [(0, .ref (kf K a0)), (1, .int x1), (2, .int x2)] [.int xs2, .int xs1, .int xs0] m0 (X9_rule_J20 a0 x1 x2 xs0 xs1 xs2 m0) := by
  unfold X9_rule_J20
  refine g_callSi C cv_X9_in q_988 (ct_X9_in xs0 xs1 xs2  m0) q_987 (by decide) rfl rfl (Nat.le_of_ble_eq_true rfl) dX9_rule_20 (fun r1 m2 => ?_)
  refine g_if_ne C 32 dX9_rule_23 (by decide) (fun _ => ?_) (fun _ => ?_)
  · refine g_aload_n C dX9_rule_32 0 rfl rfl ?_
    refine g_getr C 0 1 Fx9 h0 (by decide) rfl rfl q_919 dX9_rule_33 ?_
    refine g_iconst C (4 : Int32) dX9_rule_36 rfl ?_
    refine g_iload_n C dX9_rule_37 1 rfl rfl ?_
    refine g_iadd C dX9_rule_38 ?_
    refine g_iald (n := 516) C (cl_9_0 h0) dX9_rule_39 (fun _ => ?_)
    refine g_bnd (fun y3 => ?_)
    refine g_istore_n C dX9_rule_40 rfl (by decide) rfl ?_
    refine g_aload_n C dX9_rule_41 1 rfl rfl ?_
    refine g_getr C 0 1 Fx9 h0 (by decide) rfl rfl q_919 dX9_rule_42 ?_
    refine g_iconst C (4 : Int32) dX9_rule_45 rfl ?_
    refine g_iload_n C dX9_rule_46 2 rfl rfl ?_
    refine g_iadd C dX9_rule_47 ?_
    refine g_iload_n C dX9_rule_48 3 rfl rfl ?_
    refine g_iast (n := 516) C (cl_9_0 h0) dX9_rule_49 (fun m4 => ?_)
    refine g_iload_n C dX9_rule_50 0 rfl rfl ?_
    exact g_iret C Rr dX9_rule_51
  · refine g_sub [0] rfl ?_
    exact s_X9_rule_J26 C Rr a0 h0 m2
set_option maxHeartbeats 2000000 in
theorem s_X9_rule {K : KT}  (C : Cx K cX9_rule RX9 4 2) (Rr : Rx K (some .int))  (a0 : Nat) (x1 : Int32) (x2 : Int32) (h0 : tg a0 = 9) (m0 : Mem) : G K 0 [(0, .ref (kf K a0)), (1, .int x1), (2, .int x2)] [] m0 (f_X9_rule a0 x1 x2 m0) := by
  unfold f_X9_rule
  refine g_iload_n C dX9_rule_0 1 rfl rfl ?_
  refine g_iconst C (0 : Int32) dX9_rule_1 rfl ?_
  refine g_iconst C (1 : Int32) dX9_rule_2 rfl ?_
  refine g_callSi C cv_X9_in q_988 (ct_X9_in x1 (0 : Int32) (1 : Int32)  m0) q_987 (by decide) rfl rfl (Nat.le_of_ble_eq_true rfl) dX9_rule_3 (fun r1 m2 => ?_)
  refine g_if_eq C 26 dX9_rule_6 (by decide) (fun _ => ?_) (fun _ => ?_)
  · refine g_sub [0] rfl ?_
    exact s_X9_rule_J26 C Rr a0 h0 m2
  · refine g_iload_n C dX9_rule_9 2 rfl rfl ?_
    refine g_iconst C (0 : Int32) dX9_rule_10 rfl ?_
    refine g_iload_n C dX9_rule_11 1 rfl rfl ?_
    refine g_if_ne C 19 dX9_rule_12 (by decide) (fun _ => ?_) (fun _ => ?_)
    · refine g_iconst C (2 : Int32) dX9_rule_19 rfl ?_
      refine g_sub [0, 1, 2] rfl ?_
      exact s_X9_rule_J20 C Rr a0 x1 x2 x2 (0 : Int32) (2 : Int32) h0 m2
    · refine g_iconst C (1 : Int32) dX9_rule_15 rfl ?_
      refine g_goto C 20 dX9_rule_16 (by decide) ?_
      refine g_sub [0, 1, 2] rfl ?_
      exact s_X9_rule_J20 C Rr a0 x1 x2 x2 (0 : Int32) (1 : Int32) h0 m2
theorem ct_X9_rule {Ω : OT} (a0 : Nat) (x1 : Int32) (x2 : Int32) (h0 : tg a0 = 9) (m0 : Mem) : Ct Ω yX9_rule cX9_rule 4 (some .int) 2 [.ref (oF Ω a0), .int x1, .int x2] m0 (f_X9_rule a0 x1 x2 m0) := by
  refine Ct_of (by decide) (Nat.le_of_ble_eq_true rfl) ?_
  intro K hK C Rr
  subst hK
  exact s_X9_rule C Rr  a0 x1 x2 h0 m0
def X9_shop_L42B  (k42 : Nat → Int32 → Int32 → Int32 → Mem → Res) (a0 : Nat) (x1 : Int32) (x2 : Int32) (x3 : Int32) (m0 : Mem) : Res :=
  (if (21 : Int32) ≤ x3 then
  gd (!((10 : Int32) == 0)) (
  cal (f_X9_lays1 a0 x2 (0 : Int32) (x1 / (10 : Int32)) m0) (fun r1 m2 =>
  gd (!((10 : Int32) == 0)) (
  cal (f_X9_lays1 a0 x2 (1 : Int32) (irm x1 (10 : Int32)) m2) (fun r3 m4 =>
  gd (inb (0 : Int32) 516) (
  gd (inb (0 : Int32) 516) (bnd (mset m4 (a0 + 1) (0 : Int32).toNatClampNeg ((m4 (a0 + 1) (0 : Int32).toNatClampNeg) + (1 : Int32))) (fun m5 =>
  some (x2, m5))))))))
  else
  cal (f_X9_lays1 a0 x2 x3 (0 : Int32) m0) (fun r6 m7 =>
  bnd (x3 + (1 : Int32)) (fun y8 =>
  k42 a0 x1 x2 y8 m7)))
def X9_shop_L42   : Nat → Nat → Int32 → Int32 → Int32 → Mem → Res
  | 0 => fun _ _ _ _ _ => none
  | n + 1 => X9_shop_L42B (X9_shop_L42 n)
def f_X9_shop  (a0 : Nat) (x1 : Int32) (m0 : Mem) : Res :=
  cal (f_X9_in x1 (0 : Int32) (69 : Int32) m0) (fun r1 m2 =>
  (if r1 = 0 then
  cal (f_X9_error a0 (1 : Int32) m2) (fun r6 m7 =>
  some (r6, m7))
  else
  gd (inb (0 : Int32) 516) (
  (if (m2 (a0 + 1) (0 : Int32).toNatClampNeg) = (6 : Int32) then
  cal (f_X9_error a0 (4 : Int32) m2) (fun r4 m5 =>
  some (r4, m5))
  else
  gd (inb (0 : Int32) 516) (
  bnd (m2 (a0 + 1) (0 : Int32).toNatClampNeg) (fun y3 =>
  X9_shop_L42 FU a0 x1 y3 (0 : Int32) m2))))))
set_option maxHeartbeats 2000000 in
theorem s_X9_shop_L42B {K : KT}  (C : Cx K cX9_shop RX9 4 2) (Rr : Rx K (some .int))  {k42 : Nat → Int32 → Int32 → Int32 → Mem → Res} (hk42 : ∀ (a0 : Nat) (x1 : Int32) (x2 : Int32) (x3 : Int32) (h0 : tg a0 = 9) (m0 : Mem), G K 42 [(0, .ref (kf K a0)), (1, .int x1), (2, .int x2), (3, .int x3)] [] m0 (k42 a0 x1 x2 x3 m0)) (a0 : Nat) (x1 : Int32) (x2 : Int32) (x3 : Int32) (h0 : tg a0 = 9) (m0 : Mem) : G K 42 [(0, .ref (kf K a0)), (1, .int x1), (2, .int x2), (3, .int x3)] [] m0 (X9_shop_L42B k42 a0 x1 x2 x3 m0) := by
  unfold X9_shop_L42B
  refine g_iload_n C dX9_shop_42 3 rfl rfl ?_
  refine g_bipush C (21 : Int32) dX9_shop_43 rfl ?_
  refine g_icmp_ge C 61 dX9_shop_45 (by decide) (fun _ => ?_) (fun _ => ?_)
  · refine g_aload_n C dX9_shop_61 0 rfl rfl ?_
    refine g_iload_n C dX9_shop_62 2 rfl rfl ?_
    refine g_iconst C (0 : Int32) dX9_shop_63 rfl ?_
    refine g_iload_n C dX9_shop_64 1 rfl rfl ?_
    refine g_bipush C (10 : Int32) dX9_shop_65 rfl ?_
    refine g_idiv C dX9_shop_67 (fun _ => ?_)
    refine g_callVv C cv_X9_lays1 (ct_X9_lays1 a0 x2 (0 : Int32) (x1 / (10 : Int32)) h0 m0) q_1003 h0 (by decide) rfl rfl (Nat.le_of_ble_eq_true rfl) dX9_shop_68 (fun r1 m2 => ?_)
    refine g_aload_n C dX9_shop_71 0 rfl rfl ?_
    refine g_iload_n C dX9_shop_72 2 rfl rfl ?_
    refine g_iconst C (1 : Int32) dX9_shop_73 rfl ?_
    refine g_iload_n C dX9_shop_74 1 rfl rfl ?_
    refine g_bipush C (10 : Int32) dX9_shop_75 rfl ?_
    refine g_irem C dX9_shop_77 (fun _ => ?_)
    refine g_callVv C cv_X9_lays1 (ct_X9_lays1 a0 x2 (1 : Int32) (irm x1 (10 : Int32)) h0 m2) q_1003 h0 (by decide) rfl rfl (Nat.le_of_ble_eq_true rfl) dX9_shop_78 (fun r3 m4 => ?_)
    refine g_aload_n C dX9_shop_81 0 rfl rfl ?_
    refine g_getr C 0 1 Fx9 h0 (by decide) rfl rfl q_919 dX9_shop_82 ?_
    refine g_iconst C (0 : Int32) dX9_shop_85 rfl ?_
    refine g_dup2 C dX9_shop_86 rfl rfl ?_
    refine g_iald (n := 516) C (cl_9_0 h0) dX9_shop_87 (fun _ => ?_)
    refine g_iconst C (1 : Int32) dX9_shop_88 rfl ?_
    refine g_iadd C dX9_shop_89 ?_
    refine g_iast (n := 516) C (cl_9_0 h0) dX9_shop_90 (fun m5 => ?_)
    refine g_iload_n C dX9_shop_91 2 rfl rfl ?_
    exact g_iret C Rr dX9_shop_92
  · refine g_aload_n C dX9_shop_48 0 rfl rfl ?_
    refine g_iload_n C dX9_shop_49 2 rfl rfl ?_
    refine g_iload_n C dX9_shop_50 3 rfl rfl ?_
    refine g_iconst C (0 : Int32) dX9_shop_51 rfl ?_
    refine g_callVv C cv_X9_lays1 (ct_X9_lays1 a0 x2 x3 (0 : Int32) h0 m0) q_1003 h0 (by decide) rfl rfl (Nat.le_of_ble_eq_true rfl) dX9_shop_52 (fun r6 m7 => ?_)
    refine g_iinc (k := 3) C dX9_shop_55 rfl (w := (1 : Int32)) rfl (by decide) (fun v_ => [(3, .int v_), (0, .ref (kf K a0)), (1, .int x1), (2, .int x2)]) (fun _ => rfl) (fun y8 => ?_)
    refine g_goto C 42 dX9_shop_58 (by decide) ?_
    refine g_sub [1, 2, 3, 0] rfl ?_
    exact hk42 a0 x1 x2 y8 h0 m7
theorem s_X9_shop_L42 {K : KT}  (C : Cx K cX9_shop RX9 4 2) (Rr : Rx K (some .int))    : ∀ (n : Nat) (a0 : Nat) (x1 : Int32) (x2 : Int32) (x3 : Int32) (h0 : tg a0 = 9) (m0 : Mem), G K 42 [(0, .ref (kf K a0)), (1, .int x1), (2, .int x2), (3, .int x3)] [] m0 (X9_shop_L42 n a0 x1 x2 x3 m0) := by
  intro n
  induction n with
  | zero => intros; exact g_none
  | succ n ih =>
    intro a0 x1 x2 x3 h0 m0
    exact s_X9_shop_L42B C Rr  ih a0 x1 x2 x3 h0 m0
set_option maxHeartbeats 2000000 in
theorem s_X9_shop {K : KT}  (C : Cx K cX9_shop RX9 4 2) (Rr : Rx K (some .int))  (a0 : Nat) (x1 : Int32) (h0 : tg a0 = 9) (m0 : Mem) : G K 0 [(0, .ref (kf K a0)), (1, .int x1)] [] m0 (f_X9_shop a0 x1 m0) := by
  unfold f_X9_shop
  refine g_iload_n C dX9_shop_0 1 rfl rfl ?_
  refine g_iconst C (0 : Int32) dX9_shop_1 rfl ?_
  refine g_bipush C (69 : Int32) dX9_shop_2 rfl ?_
  refine g_callSi C cv_X9_in q_988 (ct_X9_in x1 (0 : Int32) (69 : Int32)  m0) q_987 (by decide) rfl rfl (Nat.le_of_ble_eq_true rfl) dX9_shop_4 (fun r1 m2 => ?_)
  refine g_if_ne C 16 dX9_shop_7 (by decide) (fun _ => ?_) (fun _ => ?_)
  · refine g_aload_n C dX9_shop_16 0 rfl rfl ?_
    refine g_getr C 0 1 Fx9 h0 (by decide) rfl rfl q_919 dX9_shop_17 ?_
    refine g_iconst C (0 : Int32) dX9_shop_20 rfl ?_
    refine g_iald (n := 516) C (cl_9_0 h0) dX9_shop_21 (fun _ => ?_)
    refine g_bipush C (6 : Int32) dX9_shop_22 rfl ?_
    refine g_icmp_ne C 33 dX9_shop_24 (by decide) (fun _ => ?_) (fun _ => ?_)
    · refine g_aload_n C dX9_shop_33 0 rfl rfl ?_
      refine g_getr C 0 1 Fx9 h0 (by decide) rfl rfl q_919 dX9_shop_34 ?_
      refine g_iconst C (0 : Int32) dX9_shop_37 rfl ?_
      refine g_iald (n := 516) C (cl_9_0 h0) dX9_shop_38 (fun _ => ?_)
      refine g_bnd (fun y3 => ?_)
      refine g_istore_n C dX9_shop_39 rfl (by decide) rfl ?_
      refine g_iconst C (0 : Int32) dX9_shop_40 rfl ?_
      refine g_istore_n C dX9_shop_41 rfl (by decide) rfl ?_
      refine g_sub [2, 3, 1, 0] rfl ?_
      exact s_X9_shop_L42 C Rr FU a0 x1 y3 (0 : Int32) h0 m2
    · refine g_aload_n C dX9_shop_27 0 rfl rfl ?_
      refine g_iconst C (4 : Int32) dX9_shop_28 rfl ?_
      refine g_callVi C cv_X9_error (ct_X9_error a0 (4 : Int32) h0 m2) q_990 h0 (by decide) rfl rfl (Nat.le_of_ble_eq_true rfl) dX9_shop_29 (fun r4 m5 => ?_)
      exact g_iret C Rr dX9_shop_32
  · refine g_aload_n C dX9_shop_10 0 rfl rfl ?_
    refine g_iconst C (1 : Int32) dX9_shop_11 rfl ?_
    refine g_callVi C cv_X9_error (ct_X9_error a0 (1 : Int32) h0 m2) q_990 h0 (by decide) rfl rfl (Nat.le_of_ble_eq_true rfl) dX9_shop_12 (fun r6 m7 => ?_)
    exact g_iret C Rr dX9_shop_15
theorem ct_X9_shop {Ω : OT} (a0 : Nat) (x1 : Int32) (h0 : tg a0 = 9) (m0 : Mem) : Ct Ω yX9_shop cX9_shop 4 (some .int) 2 [.ref (oF Ω a0), .int x1] m0 (f_X9_shop a0 x1 m0) := by
  refine Ct_of (by decide) (Nat.le_of_ble_eq_true rfl) ?_
  intro K hK C Rr
  subst hK
  exact s_X9_shop C Rr  a0 x1 h0 m0
def X9_toldShop_J20   (xs0 : Int32) (m0 : Mem) : Res :=
  some (xs0, m0)
def f_X9_toldShop  (a0 : Nat) (x1 : Int32) (x2 : Int32) (m0 : Mem) : Res :=
  (if x2 = (15 : Int32) then
  cal (f_X9_maySell a0 x1 m0) (fun r3 m4 =>
  X9_toldShop_J20 r3 m4)
  else
  cal (f_X9_its a0 x1 x2 m0) (fun r1 m2 =>
  X9_toldShop_J20 r1 m2))
set_option maxHeartbeats 2000000 in
theorem s_X9_toldShop_J20 {K : KT}  (C : Cx K cX9_toldShop RX9 3 5) (Rr : Rx K (some .int))    (xs0 : Int32)  (m0 : Mem) : G K 20 [] [.int xs0] m0 (X9_toldShop_J20 xs0 m0) := by
  unfold X9_toldShop_J20
  exact g_iret C Rr dX9_toldShop_20
set_option maxHeartbeats 2000000 in
theorem s_X9_toldShop {K : KT}  (C : Cx K cX9_toldShop RX9 3 5) (Rr : Rx K (some .int))  (a0 : Nat) (x1 : Int32) (x2 : Int32) (h0 : tg a0 = 9) (m0 : Mem) : G K 0 [(0, .ref (kf K a0)), (1, .int x1), (2, .int x2)] [] m0 (f_X9_toldShop a0 x1 x2 m0) := by
  unfold f_X9_toldShop
  refine g_iload_n C dX9_toldShop_0 2 rfl rfl ?_
  refine g_bipush C (15 : Int32) dX9_toldShop_1 rfl ?_
  refine g_icmp_ne C 14 dX9_toldShop_3 (by decide) (fun _ => ?_) (fun _ => ?_)
  · refine g_aload_n C dX9_toldShop_14 0 rfl rfl ?_
    refine g_iload_n C dX9_toldShop_15 1 rfl rfl ?_
    refine g_iload_n C dX9_toldShop_16 2 rfl rfl ?_
    refine g_callVi C cv_X9_its (ct_X9_its a0 x1 x2 h0 m0) q_1031 h0 (by decide) rfl rfl (Nat.le_of_ble_eq_true rfl) dX9_toldShop_17 (fun r1 m2 => ?_)
    refine g_sub [] rfl ?_
    exact s_X9_toldShop_J20 C Rr r1 m2
  · refine g_aload_n C dX9_toldShop_6 0 rfl rfl ?_
    refine g_iload_n C dX9_toldShop_7 1 rfl rfl ?_
    refine g_callVi C cv_X9_maySell (ct_X9_maySell a0 x1 h0 m0) q_1019 h0 (by decide) rfl rfl (Nat.le_of_ble_eq_true rfl) dX9_toldShop_8 (fun r3 m4 => ?_)
    refine g_goto C 20 dX9_toldShop_11 (by decide) ?_
    refine g_sub [] rfl ?_
    exact s_X9_toldShop_J20 C Rr r3 m4
theorem ct_X9_toldShop {Ω : OT} (a0 : Nat) (x1 : Int32) (x2 : Int32) (h0 : tg a0 = 9) (m0 : Mem) : Ct Ω yX9_toldShop cX9_toldShop 3 (some .int) 5 [.ref (oF Ω a0), .int x1, .int x2] m0 (f_X9_toldShop a0 x1 x2 m0) := by
  refine Ct_of (by decide) (Nat.le_of_ble_eq_true rfl) ?_
  intro K hK C Rr
  subst hK
  exact s_X9_toldShop C Rr  a0 x1 x2 h0 m0
def X9_shopIs_J32   (xs0 : Int32) (m0 : Mem) : Res :=
  some (xs0, m0)
def X9_shopIs_J27   (a0 : Nat) (m0 : Mem) : Res :=
  cal (f_X9_error a0 (1 : Int32) m0) (fun r1 m2 =>
  X9_shopIs_J32 r1 m2)
def f_X9_shopIs  (a0 : Nat) (x1 : Int32) (x2 : Int32) (m0 : Mem) : Res :=
  cal (f_X9_isShop a0 x1 m0) (fun r1 m2 =>
  (if r1 = 0 then
  X9_shopIs_J27 a0 m2
  else
  cal (f_X9_in x2 (0 : Int32) (15 : Int32) m2) (fun r3 m4 =>
  (if r3 = 0 then
  X9_shopIs_J27 a0 m4
  else
  cal (f_X9_toldShop a0 x1 x2 m4) (fun r5 m6 =>
  X9_shopIs_J32 r5 m6)))))
set_option maxHeartbeats 2000000 in
theorem s_X9_shopIs_J32 {K : KT}  (C : Cx K cX9_shopIs RX9 3 6) (Rr : Rx K (some .int))    (xs0 : Int32)  (m0 : Mem) : G K 32 [] [.int xs0] m0 (X9_shopIs_J32 xs0 m0) := by
  unfold X9_shopIs_J32
  exact g_iret C Rr dX9_shopIs_32
set_option maxHeartbeats 2000000 in
theorem s_X9_shopIs_J27 {K : KT}  (C : Cx K cX9_shopIs RX9 3 6) (Rr : Rx K (some .int))    (a0 : Nat) (h0 : tg a0 = 9) (m0 : Mem) : G K 27 [(0, .ref (kf K a0))] [] m0 (X9_shopIs_J27 a0 m0) := by
  unfold X9_shopIs_J27
  refine g_aload_n C dX9_shopIs_27 0 rfl rfl ?_
  refine g_iconst C (1 : Int32) dX9_shopIs_28 rfl ?_
  refine g_callVi C cv_X9_error (ct_X9_error a0 (1 : Int32) h0 m0) q_990 h0 (by decide) rfl rfl (Nat.le_of_ble_eq_true rfl) dX9_shopIs_29 (fun r1 m2 => ?_)
  refine g_sub [] rfl ?_
  exact s_X9_shopIs_J32 C Rr r1 m2
set_option maxHeartbeats 2000000 in
theorem s_X9_shopIs {K : KT}  (C : Cx K cX9_shopIs RX9 3 6) (Rr : Rx K (some .int))  (a0 : Nat) (x1 : Int32) (x2 : Int32) (h0 : tg a0 = 9) (m0 : Mem) : G K 0 [(0, .ref (kf K a0)), (1, .int x1), (2, .int x2)] [] m0 (f_X9_shopIs a0 x1 x2 m0) := by
  unfold f_X9_shopIs
  refine g_aload_n C dX9_shopIs_0 0 rfl rfl ?_
  refine g_iload_n C dX9_shopIs_1 1 rfl rfl ?_
  refine g_callVi C cv_X9_isShop (ct_X9_isShop a0 x1 h0 m0) q_1011 h0 (by decide) rfl rfl (Nat.le_of_ble_eq_true rfl) dX9_shopIs_2 (fun r1 m2 => ?_)
  refine g_if_eq C 27 dX9_shopIs_5 (by decide) (fun _ => ?_) (fun _ => ?_)
  · refine g_sub [0] rfl ?_
    exact s_X9_shopIs_J27 C Rr a0 h0 m2
  · refine g_iload_n C dX9_shopIs_8 2 rfl rfl ?_
    refine g_iconst C (0 : Int32) dX9_shopIs_9 rfl ?_
    refine g_bipush C (15 : Int32) dX9_shopIs_10 rfl ?_
    refine g_callSi C cv_X9_in q_988 (ct_X9_in x2 (0 : Int32) (15 : Int32)  m2) q_987 (by decide) rfl rfl (Nat.le_of_ble_eq_true rfl) dX9_shopIs_12 (fun r3 m4 => ?_)
    refine g_if_eq C 27 dX9_shopIs_15 (by decide) (fun _ => ?_) (fun _ => ?_)
    · refine g_sub [0] rfl ?_
      exact s_X9_shopIs_J27 C Rr a0 h0 m4
    · refine g_aload_n C dX9_shopIs_18 0 rfl rfl ?_
      refine g_iload_n C dX9_shopIs_19 1 rfl rfl ?_
      refine g_iload_n C dX9_shopIs_20 2 rfl rfl ?_
      refine g_callVi C cv_X9_toldShop (ct_X9_toldShop a0 x1 x2 h0 m4) q_1015 h0 (by decide) rfl rfl (Nat.le_of_ble_eq_true rfl) dX9_shopIs_21 (fun r5 m6 => ?_)
      refine g_goto C 32 dX9_shopIs_24 (by decide) ?_
      refine g_sub [] rfl ?_
      exact s_X9_shopIs_J32 C Rr r5 m6
theorem ct_X9_shopIs {Ω : OT} (a0 : Nat) (x1 : Int32) (x2 : Int32) (h0 : tg a0 = 9) (m0 : Mem) : Ct Ω yX9_shopIs cX9_shopIs 3 (some .int) 6 [.ref (oF Ω a0), .int x1, .int x2] m0 (f_X9_shopIs a0 x1 x2 m0) := by
  refine Ct_of (by decide) (Nat.le_of_ble_eq_true rfl) ?_
  intro K hK C Rr
  subst hK
  exact s_X9_shopIs C Rr  a0 x1 x2 h0 m0
def X9_isUnder_J34   (xs0 : Int32) (m0 : Mem) : Res :=
  gd (isb xs0) (some (xs0, m0))
def X9_isUnder_J29    (m0 : Mem) : Res :=
  X9_isUnder_J34 (1 : Int32) m0
def X9_isUnder_J33    (m0 : Mem) : Res :=
  X9_isUnder_J34 (0 : Int32) m0
def X9_isUnder_J19   (x0 : Int32) (x1 : Int32) (m0 : Mem) : Res :=
  (if x1 = (2 : Int32) then
  (if x0 = (5 : Int32) then
  X9_isUnder_J29 m0
  else
  X9_isUnder_J33 m0)
  else
  X9_isUnder_J33 m0)
def f_X9_isUnder  (x0 : Int32) (x1 : Int32) (m0 : Mem) : Res :=
  (if x1 = 0 then
  X9_isUnder_J29 m0
  else
  (if x0 = x1 then
  X9_isUnder_J29 m0
  else
  (if x1 = (1 : Int32) then
  (if x0 = (4 : Int32) then
  X9_isUnder_J29 m0
  else
  X9_isUnder_J19 x0 x1 m0)
  else
  X9_isUnder_J19 x0 x1 m0)))
set_option maxHeartbeats 2000000 in
theorem s_X9_isUnder_J34 {K : KT}  (C : Cx K cX9_isUnder RX9 2 1) (Rr : Rx K (some .boolean))    (xs0 : Int32)  (m0 : Mem) : G K 34 [] [.int xs0] m0 (X9_isUnder_J34 xs0 m0) := by
  unfold X9_isUnder_J34
  exact g_zret C Rr dX9_isUnder_34
set_option maxHeartbeats 2000000 in
theorem s_X9_isUnder_J29 {K : KT}  (C : Cx K cX9_isUnder RX9 2 1) (Rr : Rx K (some .boolean))      (m0 : Mem) : G K 29 [] [] m0 (X9_isUnder_J29 m0) := by
  unfold X9_isUnder_J29
  refine g_iconst C (1 : Int32) dX9_isUnder_29 rfl ?_
  refine g_goto C 34 dX9_isUnder_30 (by decide) ?_
  refine g_sub [] rfl ?_
  exact s_X9_isUnder_J34 C Rr (1 : Int32) m0
set_option maxHeartbeats 2000000 in
theorem s_X9_isUnder_J33 {K : KT}  (C : Cx K cX9_isUnder RX9 2 1) (Rr : Rx K (some .boolean))      (m0 : Mem) : G K 33 [] [] m0 (X9_isUnder_J33 m0) := by
  unfold X9_isUnder_J33
  refine g_iconst C (0 : Int32) dX9_isUnder_33 rfl ?_
  refine g_sub [] rfl ?_
  exact s_X9_isUnder_J34 C Rr (0 : Int32) m0
set_option maxHeartbeats 2000000 in
theorem s_X9_isUnder_J19 {K : KT}  (C : Cx K cX9_isUnder RX9 2 1) (Rr : Rx K (some .boolean))    (x0 : Int32) (x1 : Int32)  (m0 : Mem) : G K 19 [(0, .int x0), (1, .int x1)] [] m0 (X9_isUnder_J19 x0 x1 m0) := by
  unfold X9_isUnder_J19
  refine g_iload_n C dX9_isUnder_19 1 rfl rfl ?_
  refine g_iconst C (2 : Int32) dX9_isUnder_20 rfl ?_
  refine g_icmp_ne C 33 dX9_isUnder_21 (by decide) (fun _ => ?_) (fun _ => ?_)
  · refine g_sub [] rfl ?_
    exact s_X9_isUnder_J33 C Rr m0
  · refine g_iload_n C dX9_isUnder_24 0 rfl rfl ?_
    refine g_iconst C (5 : Int32) dX9_isUnder_25 rfl ?_
    refine g_icmp_ne C 33 dX9_isUnder_26 (by decide) (fun _ => ?_) (fun _ => ?_)
    · refine g_sub [] rfl ?_
      exact s_X9_isUnder_J33 C Rr m0
    · refine g_sub [] rfl ?_
      exact s_X9_isUnder_J29 C Rr m0
set_option maxHeartbeats 2000000 in
theorem s_X9_isUnder {K : KT}  (C : Cx K cX9_isUnder RX9 2 1) (Rr : Rx K (some .boolean))  (x0 : Int32) (x1 : Int32)  (m0 : Mem) : G K 0 [(0, .int x0), (1, .int x1)] [] m0 (f_X9_isUnder x0 x1 m0) := by
  unfold f_X9_isUnder
  refine g_iload_n C dX9_isUnder_0 1 rfl rfl ?_
  refine g_if_eq C 29 dX9_isUnder_1 (by decide) (fun _ => ?_) (fun _ => ?_)
  · refine g_sub [] rfl ?_
    exact s_X9_isUnder_J29 C Rr m0
  · refine g_iload_n C dX9_isUnder_4 0 rfl rfl ?_
    refine g_iload_n C dX9_isUnder_5 1 rfl rfl ?_
    refine g_icmp_eq C 29 dX9_isUnder_6 (by decide) (fun _ => ?_) (fun _ => ?_)
    · refine g_sub [] rfl ?_
      exact s_X9_isUnder_J29 C Rr m0
    · refine g_iload_n C dX9_isUnder_9 1 rfl rfl ?_
      refine g_iconst C (1 : Int32) dX9_isUnder_10 rfl ?_
      refine g_icmp_ne C 19 dX9_isUnder_11 (by decide) (fun _ => ?_) (fun _ => ?_)
      · refine g_sub [0, 1] rfl ?_
        exact s_X9_isUnder_J19 C Rr x0 x1 m0
      · refine g_iload_n C dX9_isUnder_14 0 rfl rfl ?_
        refine g_iconst C (4 : Int32) dX9_isUnder_15 rfl ?_
        refine g_icmp_eq C 29 dX9_isUnder_16 (by decide) (fun _ => ?_) (fun _ => ?_)
        · refine g_sub [] rfl ?_
          exact s_X9_isUnder_J29 C Rr m0
        · refine g_sub [0, 1] rfl ?_
          exact s_X9_isUnder_J19 C Rr x0 x1 m0
theorem ct_X9_isUnder {Ω : OT} (x0 : Int32) (x1 : Int32)  (m0 : Mem) : Ct Ω yX9_isUnder cX9_isUnder 2 (some .boolean) 1 [.int x0, .int x1] m0 (f_X9_isUnder x0 x1 m0) := by
  refine Ct_of (by decide) (Nat.le_of_ble_eq_true rfl) ?_
  intro K hK C Rr
  subst hK
  exact s_X9_isUnder C Rr  x0 x1 m0
def X9_as_J18   (a0 : Nat) (m0 : Mem) : Res :=
  cal (f_X9_error a0 (1 : Int32) m0) (fun r1 m2 =>
  some (r1, m2))
def X9_as_J51   (xs0 : Int32) (m0 : Mem) : Res :=
  some (xs0, m0)
def f_X9_as  (a0 : Nat) (x1 : Int32) (x2 : Int32) (m0 : Mem) : Res :=
  cal (f_X9_isShop a0 x1 m0) (fun r1 m2 =>
  (if r1 = 0 then
  X9_as_J18 a0 m2
  else
  cal (f_X9_in x2 (0 : Int32) (6 : Int32) m2) (fun r3 m4 =>
  (if r3 = 0 then
  X9_as_J18 a0 m4
  else
  cal (f_X9_its a0 x1 (0 : Int32) m4) (fun r5 m6 =>
  cal (f_X9_isUnder r5 x2 m6) (fun r7 m8 =>
  (if r7 = 0 then
  cal (f_X9_error a0 (5 : Int32) m8) (fun r9 m10 =>
  X9_as_J51 r9 m10)
  else
  cal (f_X9_its a0 x1 (2 : Int32) m8) (fun r11 m12 =>
  X9_as_J51 r11 m12))))))))
set_option maxHeartbeats 2000000 in
theorem s_X9_as_J18 {K : KT}  (C : Cx K cX9_as RX9 3 3) (Rr : Rx K (some .int))    (a0 : Nat) (h0 : tg a0 = 9) (m0 : Mem) : G K 18 [(0, .ref (kf K a0))] [] m0 (X9_as_J18 a0 m0) := by
  unfold X9_as_J18
  refine g_aload_n C dX9_as_18 0 rfl rfl ?_
  refine g_iconst C (1 : Int32) dX9_as_19 rfl ?_
  refine g_callVi C cv_X9_error (ct_X9_error a0 (1 : Int32) h0 m0) q_990 h0 (by decide) rfl rfl (Nat.le_of_ble_eq_true rfl) dX9_as_20 (fun r1 m2 => ?_)
  exact g_iret C Rr dX9_as_23
set_option maxHeartbeats 2000000 in
theorem s_X9_as_J51 {K : KT}  (C : Cx K cX9_as RX9 3 3) (Rr : Rx K (some .int))    (xs0 : Int32)  (m0 : Mem) : G K 51 [] [.int xs0] m0 (X9_as_J51 xs0 m0) := by
  unfold X9_as_J51
  exact g_iret C Rr dX9_as_51
set_option maxHeartbeats 2000000 in
theorem s_X9_as {K : KT}  (C : Cx K cX9_as RX9 3 3) (Rr : Rx K (some .int))  (a0 : Nat) (x1 : Int32) (x2 : Int32) (h0 : tg a0 = 9) (m0 : Mem) : G K 0 [(0, .ref (kf K a0)), (1, .int x1), (2, .int x2)] [] m0 (f_X9_as a0 x1 x2 m0) := by
  unfold f_X9_as
  refine g_aload_n C dX9_as_0 0 rfl rfl ?_
  refine g_iload_n C dX9_as_1 1 rfl rfl ?_
  refine g_callVi C cv_X9_isShop (ct_X9_isShop a0 x1 h0 m0) q_1011 h0 (by decide) rfl rfl (Nat.le_of_ble_eq_true rfl) dX9_as_2 (fun r1 m2 => ?_)
  refine g_if_eq C 18 dX9_as_5 (by decide) (fun _ => ?_) (fun _ => ?_)
  · refine g_sub [0] rfl ?_
    exact s_X9_as_J18 C Rr a0 h0 m2
  · refine g_iload_n C dX9_as_8 2 rfl rfl ?_
    refine g_iconst C (0 : Int32) dX9_as_9 rfl ?_
    refine g_bipush C (6 : Int32) dX9_as_10 rfl ?_
    refine g_callSi C cv_X9_in q_988 (ct_X9_in x2 (0 : Int32) (6 : Int32)  m2) q_987 (by decide) rfl rfl (Nat.le_of_ble_eq_true rfl) dX9_as_12 (fun r3 m4 => ?_)
    refine g_if_ne C 24 dX9_as_15 (by decide) (fun _ => ?_) (fun _ => ?_)
    · refine g_aload_n C dX9_as_24 0 rfl rfl ?_
      refine g_iload_n C dX9_as_25 1 rfl rfl ?_
      refine g_iconst C (0 : Int32) dX9_as_26 rfl ?_
      refine g_callVi C cv_X9_its (ct_X9_its a0 x1 (0 : Int32) h0 m4) q_1031 h0 (by decide) rfl rfl (Nat.le_of_ble_eq_true rfl) dX9_as_27 (fun r5 m6 => ?_)
      refine g_iload_n C dX9_as_30 2 rfl rfl ?_
      refine g_callSi C cv_X9_isUnder q_1044 (ct_X9_isUnder r5 x2  m6) q_1043 (by decide) rfl rfl (Nat.le_of_ble_eq_true rfl) dX9_as_31 (fun r7 m8 => ?_)
      refine g_if_eq C 46 dX9_as_34 (by decide) (fun _ => ?_) (fun _ => ?_)
      · refine g_aload_n C dX9_as_46 0 rfl rfl ?_
        refine g_iconst C (5 : Int32) dX9_as_47 rfl ?_
        refine g_callVi C cv_X9_error (ct_X9_error a0 (5 : Int32) h0 m8) q_990 h0 (by decide) rfl rfl (Nat.le_of_ble_eq_true rfl) dX9_as_48 (fun r9 m10 => ?_)
        refine g_sub [] rfl ?_
        exact s_X9_as_J51 C Rr r9 m10
      · refine g_aload_n C dX9_as_37 0 rfl rfl ?_
        refine g_iload_n C dX9_as_38 1 rfl rfl ?_
        refine g_iconst C (2 : Int32) dX9_as_39 rfl ?_
        refine g_callVi C cv_X9_its (ct_X9_its a0 x1 (2 : Int32) h0 m8) q_1031 h0 (by decide) rfl rfl (Nat.le_of_ble_eq_true rfl) dX9_as_40 (fun r11 m12 => ?_)
        refine g_goto C 51 dX9_as_43 (by decide) ?_
        refine g_sub [] rfl ?_
        exact s_X9_as_J51 C Rr r11 m12
    · refine g_sub [0] rfl ?_
      exact s_X9_as_J18 C Rr a0 h0 m4
theorem ct_X9_as {Ω : OT} (a0 : Nat) (x1 : Int32) (x2 : Int32) (h0 : tg a0 = 9) (m0 : Mem) : Ct Ω yX9_as cX9_as 3 (some .int) 3 [.ref (oF Ω a0), .int x1, .int x2] m0 (f_X9_as a0 x1 x2 m0) := by
  refine Ct_of (by decide) (Nat.le_of_ble_eq_true rfl) ?_
  intro K hK C Rr
  subst hK
  exact s_X9_as C Rr  a0 x1 x2 h0 m0
def X9_set_J57   (a0 : Nat) (m0 : Mem) : Res :=
  cal (f_X9_error a0 (1 : Int32) m0) (fun r1 m2 =>
  some (r1, m2))
def X9_set_J22   (a0 : Nat) (x1 : Int32) (x2 : Int32) (x3 : Int32) (xs0 : Int32) (m0 : Mem) : Res :=
  cal (f_X9_isShop a0 x1 m0) (fun r1 m2 =>
  (if r1 = 0 then
  X9_set_J57 a0 m2
  else
  cal (f_X9_in x2 (0 : Int32) (14 : Int32) m2) (fun r3 m4 =>
  (if r3 = 0 then
  X9_set_J57 a0 m4
  else
  (if x2 = (2 : Int32) then
  X9_set_J57 a0 m4
  else
  cal (f_X9_in x3 (0 : Int32) xs0 m4) (fun r5 m6 =>
  (if r5 = 0 then
  X9_set_J57 a0 m6
  else
  cal (f_X9_its a0 x1 x2 m6) (fun r7 m8 =>
  cal (f_X9_lays1 a0 x1 x2 x3 m8) (fun r9 m10 =>
  some (r7, m10))))))))))
def f_X9_set  (a0 : Nat) (x1 : Int32) (x2 : Int32) (x3 : Int32) (m0 : Mem) : Res :=
  (if x2 = 0 then
  X9_set_J22 a0 x1 x2 x3 (6 : Int32) m0
  else
  (if (9 : Int32) ≤ x2 then
  X9_set_J22 a0 x1 x2 x3 (99 : Int32) m0
  else
  X9_set_J22 a0 x1 x2 x3 (9 : Int32) m0))
set_option maxHeartbeats 2000000 in
theorem s_X9_set_J57 {K : KT}  (C : Cx K cX9_set RX9 6 3) (Rr : Rx K (some .int))    (a0 : Nat) (h0 : tg a0 = 9) (m0 : Mem) : G K 57 [(0, .ref (kf K a0))] [] m0 (X9_set_J57 a0 m0) := by
  unfold X9_set_J57
  refine g_aload_n C dX9_set_57 0 rfl rfl ?_
  refine g_iconst C (1 : Int32) dX9_set_58 rfl ?_
  refine g_callVi C cv_X9_error (ct_X9_error a0 (1 : Int32) h0 m0) q_990 h0 (by decide) rfl rfl (Nat.le_of_ble_eq_true rfl) dX9_set_59 (fun r1 m2 => ?_)
  exact g_iret C Rr dX9_set_62
set_option maxHeartbeats 2000000 in
theorem s_X9_set_J22 {K : KT}  (C : Cx K cX9_set RX9 6 3) (Rr : Rx K (some .int))    (a0 : Nat) (x1 : Int32) (x2 : Int32) (x3 : Int32) (xs0 : Int32) (h0 : tg a0 = 9) (m0 : Mem) : G K 22 [(0, .ref (kf K a0)), (1, .int x1), (2, .int x2), (3, .int x3)] [.int xs0] m0 (X9_set_J22 a0 x1 x2 x3 xs0 m0) := by
  unfold X9_set_J22
  refine g_istore C dX9_set_22 (by decide) rfl ?_
  refine g_aload_n C dX9_set_24 1 rfl rfl ?_
  refine g_iload_n C dX9_set_25 2 rfl rfl ?_
  refine g_callVi C cv_X9_isShop (ct_X9_isShop a0 x1 h0 m0) q_1011 h0 (by decide) rfl rfl (Nat.le_of_ble_eq_true rfl) dX9_set_26 (fun r1 m2 => ?_)
  refine g_if_eq C 57 dX9_set_29 (by decide) (fun _ => ?_) (fun _ => ?_)
  · refine g_sub [1] rfl ?_
    exact s_X9_set_J57 C Rr a0 h0 m2
  · refine g_iload_n C dX9_set_32 3 rfl rfl ?_
    refine g_iconst C (0 : Int32) dX9_set_33 rfl ?_
    refine g_bipush C (14 : Int32) dX9_set_34 rfl ?_
    refine g_callSi C cv_X9_in q_988 (ct_X9_in x2 (0 : Int32) (14 : Int32)  m2) q_987 (by decide) rfl rfl (Nat.le_of_ble_eq_true rfl) dX9_set_36 (fun r3 m4 => ?_)
    refine g_if_eq C 57 dX9_set_39 (by decide) (fun _ => ?_) (fun _ => ?_)
    · refine g_sub [1] rfl ?_
      exact s_X9_set_J57 C Rr a0 h0 m4
    · refine g_iload_n C dX9_set_42 3 rfl rfl ?_
      refine g_iconst C (2 : Int32) dX9_set_43 rfl ?_
      refine g_icmp_eq C 57 dX9_set_44 (by decide) (fun _ => ?_) (fun _ => ?_)
      · refine g_sub [1] rfl ?_
        exact s_X9_set_J57 C Rr a0 h0 m4
      · refine g_iload_n C dX9_set_47 4 rfl rfl ?_
        refine g_iconst C (0 : Int32) dX9_set_48 rfl ?_
        refine g_iload C dX9_set_49 0 rfl ?_
        refine g_callSi C cv_X9_in q_988 (ct_X9_in x3 (0 : Int32) xs0  m4) q_987 (by decide) rfl rfl (Nat.le_of_ble_eq_true rfl) dX9_set_51 (fun r5 m6 => ?_)
        refine g_if_ne C 63 dX9_set_54 (by decide) (fun _ => ?_) (fun _ => ?_)
        · refine g_aload_n C dX9_set_63 1 rfl rfl ?_
          refine g_iload_n C dX9_set_64 2 rfl rfl ?_
          refine g_iload_n C dX9_set_65 3 rfl rfl ?_
          refine g_callVi C cv_X9_its (ct_X9_its a0 x1 x2 h0 m6) q_1031 h0 (by decide) rfl rfl (Nat.le_of_ble_eq_true rfl) dX9_set_66 (fun r7 m8 => ?_)
          refine g_istore C dX9_set_69 (by decide) rfl ?_
          refine g_aload_n C dX9_set_71 2 rfl rfl ?_
          refine g_iload_n C dX9_set_72 3 rfl rfl ?_
          refine g_iload_n C dX9_set_73 4 rfl rfl ?_
          refine g_iload_n C dX9_set_74 5 rfl rfl ?_
          refine g_callVv C cv_X9_lays1 (ct_X9_lays1 a0 x1 x2 x3 h0 m8) q_1003 h0 (by decide) rfl rfl (Nat.le_of_ble_eq_true rfl) dX9_set_75 (fun r9 m10 => ?_)
          refine g_iload C dX9_set_78 0 rfl ?_
          exact g_iret C Rr dX9_set_80
        · refine g_sub [1] rfl ?_
          exact s_X9_set_J57 C Rr a0 h0 m6
set_option maxHeartbeats 2000000 in
theorem s_X9_set {K : KT}  (C : Cx K cX9_set RX9 6 3) (Rr : Rx K (some .int))  (a0 : Nat) (x1 : Int32) (x2 : Int32) (x3 : Int32) (h0 : tg a0 = 9) (m0 : Mem) : G K 0 [(0, .ref (kf K a0)), (1, .int x1), (2, .int x2), (3, .int x3)] [] m0 (f_X9_set a0 x1 x2 x3 m0) := by
  unfold f_X9_set
  refine g_iload_n C dX9_set_0 2 rfl rfl ?_
  refine g_if_ne C 9 dX9_set_1 (by decide) (fun _ => ?_) (fun _ => ?_)
  · refine g_iload_n C dX9_set_9 2 rfl rfl ?_
    refine g_bipush C (9 : Int32) dX9_set_10 rfl ?_
    refine g_icmp_ge C 20 dX9_set_12 (by decide) (fun _ => ?_) (fun _ => ?_)
    · refine g_bipush C (99 : Int32) dX9_set_20 rfl ?_
      refine g_sub [0, 1, 2, 3] rfl ?_
      exact s_X9_set_J22 C Rr a0 x1 x2 x3 (99 : Int32) h0 m0
    · refine g_bipush C (9 : Int32) dX9_set_15 rfl ?_
      refine g_goto C 22 dX9_set_17 (by decide) ?_
      refine g_sub [0, 1, 2, 3] rfl ?_
      exact s_X9_set_J22 C Rr a0 x1 x2 x3 (9 : Int32) h0 m0
  · refine g_bipush C (6 : Int32) dX9_set_4 rfl ?_
    refine g_goto C 22 dX9_set_6 (by decide) ?_
    refine g_sub [0, 1, 2, 3] rfl ?_
    exact s_X9_set_J22 C Rr a0 x1 x2 x3 (6 : Int32) h0 m0
theorem ct_X9_set {Ω : OT} (a0 : Nat) (x1 : Int32) (x2 : Int32) (x3 : Int32) (h0 : tg a0 = 9) (m0 : Mem) : Ct Ω yX9_set cX9_set 6 (some .int) 3 [.ref (oF Ω a0), .int x1, .int x2, .int x3] m0 (f_X9_set a0 x1 x2 x3 m0) := by
  refine Ct_of (by decide) (Nat.le_of_ble_eq_true rfl) ?_
  intro K hK C Rr
  subst hK
  exact s_X9_set C Rr  a0 x1 x2 x3 h0 m0
def X9_isCustomer1_J45   (xs0 : Int32) (m0 : Mem) : Res :=
  gd (isb xs0) (some (xs0, m0))
def X9_isCustomer1_J44    (m0 : Mem) : Res :=
  X9_isCustomer1_J45 (0 : Int32) m0
def f_X9_isCustomer1  (x0 : Int32) (x1 : Int32) (x2 : Int32) (m0 : Mem) : Res :=
  cal (f_X9_in x0 (0 : Int32) (63 : Int32) m0) (fun r1 m2 =>
  (if r1 = 0 then
  X9_isCustomer1_J44 m2
  else
  cal (f_X9_in x1 (10 : Int32) (121 : Int32) m2) (fun r3 m4 =>
  (if r3 = 0 then
  X9_isCustomer1_J44 m4
  else
  gd (!((10 : Int32) == 0)) (
  (if (1 : Int32) < (irm x1 (10 : Int32)) then
  X9_isCustomer1_J44 m4
  else
  cal (f_X9_in x2 (0 : Int32) (999 : Int32) m4) (fun r5 m6 =>
  (if r5 = 0 then
  X9_isCustomer1_J44 m6
  else
  X9_isCustomer1_J45 (1 : Int32) m6))))))))
set_option maxHeartbeats 2000000 in
theorem s_X9_isCustomer1_J45 {K : KT}  (C : Cx K cX9_isCustomer1 RX9 3 2) (Rr : Rx K (some .boolean))    (xs0 : Int32)  (m0 : Mem) : G K 45 [] [.int xs0] m0 (X9_isCustomer1_J45 xs0 m0) := by
  unfold X9_isCustomer1_J45
  exact g_zret C Rr dX9_isCustomer1_45
set_option maxHeartbeats 2000000 in
theorem s_X9_isCustomer1_J44 {K : KT}  (C : Cx K cX9_isCustomer1 RX9 3 2) (Rr : Rx K (some .boolean))      (m0 : Mem) : G K 44 [] [] m0 (X9_isCustomer1_J44 m0) := by
  unfold X9_isCustomer1_J44
  refine g_iconst C (0 : Int32) dX9_isCustomer1_44 rfl ?_
  refine g_sub [] rfl ?_
  exact s_X9_isCustomer1_J45 C Rr (0 : Int32) m0
set_option maxHeartbeats 2000000 in
theorem s_X9_isCustomer1 {K : KT}  (C : Cx K cX9_isCustomer1 RX9 3 2) (Rr : Rx K (some .boolean))  (x0 : Int32) (x1 : Int32) (x2 : Int32)  (m0 : Mem) : G K 0 [(0, .int x0), (1, .int x1), (2, .int x2)] [] m0 (f_X9_isCustomer1 x0 x1 x2 m0) := by
  unfold f_X9_isCustomer1
  refine g_iload_n C dX9_isCustomer1_0 0 rfl rfl ?_
  refine g_iconst C (0 : Int32) dX9_isCustomer1_1 rfl ?_
  refine g_bipush C (63 : Int32) dX9_isCustomer1_2 rfl ?_
  refine g_callSi C cv_X9_in q_988 (ct_X9_in x0 (0 : Int32) (63 : Int32)  m0) q_987 (by decide) rfl rfl (Nat.le_of_ble_eq_true rfl) dX9_isCustomer1_4 (fun r1 m2 => ?_)
  refine g_if_eq C 44 dX9_isCustomer1_7 (by decide) (fun _ => ?_) (fun _ => ?_)
  · refine g_sub [] rfl ?_
    exact s_X9_isCustomer1_J44 C Rr m2
  · refine g_iload_n C dX9_isCustomer1_10 1 rfl rfl ?_
    refine g_bipush C (10 : Int32) dX9_isCustomer1_11 rfl ?_
    refine g_bipush C (121 : Int32) dX9_isCustomer1_13 rfl ?_
    refine g_callSi C cv_X9_in q_988 (ct_X9_in x1 (10 : Int32) (121 : Int32)  m2) q_987 (by decide) rfl rfl (Nat.le_of_ble_eq_true rfl) dX9_isCustomer1_15 (fun r3 m4 => ?_)
    refine g_if_eq C 44 dX9_isCustomer1_18 (by decide) (fun _ => ?_) (fun _ => ?_)
    · refine g_sub [] rfl ?_
      exact s_X9_isCustomer1_J44 C Rr m4
    · refine g_iload_n C dX9_isCustomer1_21 1 rfl rfl ?_
      refine g_bipush C (10 : Int32) dX9_isCustomer1_22 rfl ?_
      refine g_irem C dX9_isCustomer1_24 (fun _ => ?_)
      refine g_iconst C (1 : Int32) dX9_isCustomer1_25 rfl ?_
      refine g_icmp_gt C 44 dX9_isCustomer1_26 (by decide) (fun _ => ?_) (fun _ => ?_)
      · refine g_sub [] rfl ?_
        exact s_X9_isCustomer1_J44 C Rr m4
      · refine g_iload_n C dX9_isCustomer1_29 2 rfl rfl ?_
        refine g_iconst C (0 : Int32) dX9_isCustomer1_30 rfl ?_
        refine g_sipush C (999 : Int32) dX9_isCustomer1_31 rfl ?_
        refine g_callSi C cv_X9_in q_988 (ct_X9_in x2 (0 : Int32) (999 : Int32)  m4) q_987 (by decide) rfl rfl (Nat.le_of_ble_eq_true rfl) dX9_isCustomer1_34 (fun r5 m6 => ?_)
        refine g_if_eq C 44 dX9_isCustomer1_37 (by decide) (fun _ => ?_) (fun _ => ?_)
        · refine g_sub [] rfl ?_
          exact s_X9_isCustomer1_J44 C Rr m6
        · refine g_iconst C (1 : Int32) dX9_isCustomer1_40 rfl ?_
          refine g_goto C 45 dX9_isCustomer1_41 (by decide) ?_
          refine g_sub [] rfl ?_
          exact s_X9_isCustomer1_J45 C Rr (1 : Int32) m6
theorem ct_X9_isCustomer1 {Ω : OT} (x0 : Int32) (x1 : Int32) (x2 : Int32)  (m0 : Mem) : Ct Ω yX9_isCustomer1 cX9_isCustomer1 3 (some .boolean) 2 [.int x0, .int x1, .int x2] m0 (f_X9_isCustomer1 x0 x1 x2 m0) := by
  refine Ct_of (by decide) (Nat.le_of_ble_eq_true rfl) ?_
  intro K hK C Rr
  subst hK
  exact s_X9_isCustomer1 C Rr  x0 x1 x2 m0
def f_X9_addCustomer  (a0 : Nat) (x1 : Int32) (x2 : Int32) (x3 : Int32) (m0 : Mem) : Res :=
  gd (inb (1 : Int32) 516) (
  bnd ((142 : Int32) + ((4 : Int32) * (m0 (a0 + 1) (1 : Int32).toNatClampNeg))) (fun y1 =>
  gd (inb y1 516) (bnd (mset m0 (a0 + 1) y1.toNatClampNeg x1) (fun m2 =>
  gd (!((10 : Int32) == 0)) (
  gd (inb (y1 + (1 : Int32)) 516) (bnd (mset m2 (a0 + 1) (y1 + (1 : Int32)).toNatClampNeg (x2 / (10 : Int32))) (fun m3 =>
  gd (!((10 : Int32) == 0)) (
  gd (inb (y1 + (2 : Int32)) 516) (bnd (mset m3 (a0 + 1) (y1 + (2 : Int32)).toNatClampNeg (irm x2 (10 : Int32))) (fun m4 =>
  gd (inb (y1 + (3 : Int32)) 516) (bnd (mset m4 (a0 + 1) (y1 + (3 : Int32)).toNatClampNeg x3) (fun m5 =>
  gd (inb (1 : Int32) 516) (
  gd (inb (1 : Int32) 516) (bnd (mset m5 (a0 + 1) (1 : Int32).toNatClampNeg ((m5 (a0 + 1) (1 : Int32).toNatClampNeg) + (1 : Int32))) (fun m6 =>
  some (0, m6))))))))))))))))
set_option maxHeartbeats 2000000 in
theorem s_X9_addCustomer {K : KT}  (C : Cx K cX9_addCustomer RX9 5 1) (Rr : Rx K none)  (a0 : Nat) (x1 : Int32) (x2 : Int32) (x3 : Int32) (h0 : tg a0 = 9) (m0 : Mem) : G K 0 [(0, .ref (kf K a0)), (1, .int x1), (2, .int x2), (3, .int x3)] [] m0 (f_X9_addCustomer a0 x1 x2 x3 m0) := by
  unfold f_X9_addCustomer
  refine g_sipush C (142 : Int32) dX9_addCustomer_0 rfl ?_
  refine g_iconst C (4 : Int32) dX9_addCustomer_3 rfl ?_
  refine g_aload_n C dX9_addCustomer_4 0 rfl rfl ?_
  refine g_getr C 0 1 Fx9 h0 (by decide) rfl rfl q_919 dX9_addCustomer_5 ?_
  refine g_iconst C (1 : Int32) dX9_addCustomer_8 rfl ?_
  refine g_iald (n := 516) C (cl_9_0 h0) dX9_addCustomer_9 (fun _ => ?_)
  refine g_imul C dX9_addCustomer_10 ?_
  refine g_iadd C dX9_addCustomer_11 ?_
  refine g_bnd (fun y1 => ?_)
  refine g_istore C dX9_addCustomer_12 (by decide) rfl ?_
  refine g_aload_n C dX9_addCustomer_14 1 rfl rfl ?_
  refine g_getr C 0 1 Fx9 h0 (by decide) rfl rfl q_919 dX9_addCustomer_15 ?_
  refine g_iload C dX9_addCustomer_18 0 rfl ?_
  refine g_iload_n C dX9_addCustomer_20 2 rfl rfl ?_
  refine g_iast (n := 516) C (cl_9_0 h0) dX9_addCustomer_21 (fun m2 => ?_)
  refine g_aload_n C dX9_addCustomer_22 1 rfl rfl ?_
  refine g_getr C 0 1 Fx9 h0 (by decide) rfl rfl q_919 dX9_addCustomer_23 ?_
  refine g_iload C dX9_addCustomer_26 0 rfl ?_
  refine g_iconst C (1 : Int32) dX9_addCustomer_28 rfl ?_
  refine g_iadd C dX9_addCustomer_29 ?_
  refine g_iload_n C dX9_addCustomer_30 3 rfl rfl ?_
  refine g_bipush C (10 : Int32) dX9_addCustomer_31 rfl ?_
  refine g_idiv C dX9_addCustomer_33 (fun _ => ?_)
  refine g_iast (n := 516) C (cl_9_0 h0) dX9_addCustomer_34 (fun m3 => ?_)
  refine g_aload_n C dX9_addCustomer_35 1 rfl rfl ?_
  refine g_getr C 0 1 Fx9 h0 (by decide) rfl rfl q_919 dX9_addCustomer_36 ?_
  refine g_iload C dX9_addCustomer_39 0 rfl ?_
  refine g_iconst C (2 : Int32) dX9_addCustomer_41 rfl ?_
  refine g_iadd C dX9_addCustomer_42 ?_
  refine g_iload_n C dX9_addCustomer_43 3 rfl rfl ?_
  refine g_bipush C (10 : Int32) dX9_addCustomer_44 rfl ?_
  refine g_irem C dX9_addCustomer_46 (fun _ => ?_)
  refine g_iast (n := 516) C (cl_9_0 h0) dX9_addCustomer_47 (fun m4 => ?_)
  refine g_aload_n C dX9_addCustomer_48 1 rfl rfl ?_
  refine g_getr C 0 1 Fx9 h0 (by decide) rfl rfl q_919 dX9_addCustomer_49 ?_
  refine g_iload C dX9_addCustomer_52 0 rfl ?_
  refine g_iconst C (3 : Int32) dX9_addCustomer_54 rfl ?_
  refine g_iadd C dX9_addCustomer_55 ?_
  refine g_iload_n C dX9_addCustomer_56 4 rfl rfl ?_
  refine g_iast (n := 516) C (cl_9_0 h0) dX9_addCustomer_57 (fun m5 => ?_)
  refine g_aload_n C dX9_addCustomer_58 1 rfl rfl ?_
  refine g_getr C 0 1 Fx9 h0 (by decide) rfl rfl q_919 dX9_addCustomer_59 ?_
  refine g_iconst C (1 : Int32) dX9_addCustomer_62 rfl ?_
  refine g_dup2 C dX9_addCustomer_63 rfl rfl ?_
  refine g_iald (n := 516) C (cl_9_0 h0) dX9_addCustomer_64 (fun _ => ?_)
  refine g_iconst C (1 : Int32) dX9_addCustomer_65 rfl ?_
  refine g_iadd C dX9_addCustomer_66 ?_
  refine g_iast (n := 516) C (cl_9_0 h0) dX9_addCustomer_67 (fun m6 => ?_)
  exact g_vret C Rr dX9_addCustomer_68
theorem ct_X9_addCustomer {Ω : OT} (a0 : Nat) (x1 : Int32) (x2 : Int32) (x3 : Int32) (h0 : tg a0 = 9) (m0 : Mem) : Ct Ω yX9_addCustomer cX9_addCustomer 5 none 1 [.ref (oF Ω a0), .int x1, .int x2, .int x3] m0 (f_X9_addCustomer a0 x1 x2 x3 m0) := by
  refine Ct_of (by decide) (Nat.le_of_ble_eq_true rfl) ?_
  intro K hK C Rr
  subst hK
  exact s_X9_addCustomer C Rr  a0 x1 x2 x3 h0 m0
def f_X9_customer  (a0 : Nat) (x1 : Int32) (x2 : Int32) (x3 : Int32) (m0 : Mem) : Res :=
  cal (f_X9_isCustomer1 x1 x2 x3 m0) (fun r1 m2 =>
  (if r1 = 0 then
  cal (f_X9_error a0 (1 : Int32) m2) (fun r7 m8 =>
  some (r7, m8))
  else
  gd (inb (1 : Int32) 516) (
  (if (m2 (a0 + 1) (1 : Int32).toNatClampNeg) = (10 : Int32) then
  cal (f_X9_error a0 (4 : Int32) m2) (fun r5 m6 =>
  some (r5, m6))
  else
  cal (f_X9_addCustomer a0 x1 x2 x3 m2) (fun r3 m4 =>
  gd (inb (1 : Int32) 516) (
  some ((m4 (a0 + 1) (1 : Int32).toNatClampNeg) - (1 : Int32), m4)))))))
set_option maxHeartbeats 2000000 in
theorem s_X9_customer {K : KT}  (C : Cx K cX9_customer RX9 4 3) (Rr : Rx K (some .int))  (a0 : Nat) (x1 : Int32) (x2 : Int32) (x3 : Int32) (h0 : tg a0 = 9) (m0 : Mem) : G K 0 [(0, .ref (kf K a0)), (1, .int x1), (2, .int x2), (3, .int x3)] [] m0 (f_X9_customer a0 x1 x2 x3 m0) := by
  unfold f_X9_customer
  refine g_iload_n C dX9_customer_0 1 rfl rfl ?_
  refine g_iload_n C dX9_customer_1 2 rfl rfl ?_
  refine g_iload_n C dX9_customer_2 3 rfl rfl ?_
  refine g_callSi C cv_X9_isCustomer1 q_1055 (ct_X9_isCustomer1 x1 x2 x3  m0) q_1054 (by decide) rfl rfl (Nat.le_of_ble_eq_true rfl) dX9_customer_3 (fun r1 m2 => ?_)
  refine g_if_ne C 15 dX9_customer_6 (by decide) (fun _ => ?_) (fun _ => ?_)
  · refine g_aload_n C dX9_customer_15 0 rfl rfl ?_
    refine g_getr C 0 1 Fx9 h0 (by decide) rfl rfl q_919 dX9_customer_16 ?_
    refine g_iconst C (1 : Int32) dX9_customer_19 rfl ?_
    refine g_iald (n := 516) C (cl_9_0 h0) dX9_customer_20 (fun _ => ?_)
    refine g_bipush C (10 : Int32) dX9_customer_21 rfl ?_
    refine g_icmp_ne C 32 dX9_customer_23 (by decide) (fun _ => ?_) (fun _ => ?_)
    · refine g_aload_n C dX9_customer_32 0 rfl rfl ?_
      refine g_iload_n C dX9_customer_33 1 rfl rfl ?_
      refine g_iload_n C dX9_customer_34 2 rfl rfl ?_
      refine g_iload_n C dX9_customer_35 3 rfl rfl ?_
      refine g_callVv C cv_X9_addCustomer (ct_X9_addCustomer a0 x1 x2 x3 h0 m2) q_1057 h0 (by decide) rfl rfl (Nat.le_of_ble_eq_true rfl) dX9_customer_36 (fun r3 m4 => ?_)
      refine g_aload_n C dX9_customer_39 0 rfl rfl ?_
      refine g_getr C 0 1 Fx9 h0 (by decide) rfl rfl q_919 dX9_customer_40 ?_
      refine g_iconst C (1 : Int32) dX9_customer_43 rfl ?_
      refine g_iald (n := 516) C (cl_9_0 h0) dX9_customer_44 (fun _ => ?_)
      refine g_iconst C (1 : Int32) dX9_customer_45 rfl ?_
      refine g_isub C dX9_customer_46 ?_
      exact g_iret C Rr dX9_customer_47
    · refine g_aload_n C dX9_customer_26 0 rfl rfl ?_
      refine g_iconst C (4 : Int32) dX9_customer_27 rfl ?_
      refine g_callVi C cv_X9_error (ct_X9_error a0 (4 : Int32) h0 m2) q_990 h0 (by decide) rfl rfl (Nat.le_of_ble_eq_true rfl) dX9_customer_28 (fun r5 m6 => ?_)
      exact g_iret C Rr dX9_customer_31
  · refine g_aload_n C dX9_customer_9 0 rfl rfl ?_
    refine g_iconst C (1 : Int32) dX9_customer_10 rfl ?_
    refine g_callVi C cv_X9_error (ct_X9_error a0 (1 : Int32) h0 m2) q_990 h0 (by decide) rfl rfl (Nat.le_of_ble_eq_true rfl) dX9_customer_11 (fun r7 m8 => ?_)
    exact g_iret C Rr dX9_customer_14
theorem ct_X9_customer {Ω : OT} (a0 : Nat) (x1 : Int32) (x2 : Int32) (x3 : Int32) (h0 : tg a0 = 9) (m0 : Mem) : Ct Ω yX9_customer cX9_customer 4 (some .int) 3 [.ref (oF Ω a0), .int x1, .int x2, .int x3] m0 (f_X9_customer a0 x1 x2 x3 m0) := by
  refine Ct_of (by decide) (Nat.le_of_ble_eq_true rfl) ?_
  intro K hK C Rr
  subst hK
  exact s_X9_customer C Rr  a0 x1 x2 x3 h0 m0
def X9_customerIs_J31   (xs0 : Int32) (m0 : Mem) : Res :=
  some (xs0, m0)
def X9_customerIs_J26   (a0 : Nat) (m0 : Mem) : Res :=
  cal (f_X9_error a0 (1 : Int32) m0) (fun r1 m2 =>
  X9_customerIs_J31 r1 m2)
def f_X9_customerIs  (a0 : Nat) (x1 : Int32) (x2 : Int32) (m0 : Mem) : Res :=
  cal (f_X9_isCustomer a0 x1 m0) (fun r1 m2 =>
  (if r1 = 0 then
  X9_customerIs_J26 a0 m2
  else
  cal (f_X9_in x2 (0 : Int32) (3 : Int32) m2) (fun r3 m4 =>
  (if r3 = 0 then
  X9_customerIs_J26 a0 m4
  else
  cal (f_X9_of a0 x1 x2 m4) (fun r5 m6 =>
  X9_customerIs_J31 r5 m6)))))
set_option maxHeartbeats 2000000 in
theorem s_X9_customerIs_J31 {K : KT}  (C : Cx K cX9_customerIs RX9 3 3) (Rr : Rx K (some .int))    (xs0 : Int32)  (m0 : Mem) : G K 31 [] [.int xs0] m0 (X9_customerIs_J31 xs0 m0) := by
  unfold X9_customerIs_J31
  exact g_iret C Rr dX9_customerIs_31
set_option maxHeartbeats 2000000 in
theorem s_X9_customerIs_J26 {K : KT}  (C : Cx K cX9_customerIs RX9 3 3) (Rr : Rx K (some .int))    (a0 : Nat) (h0 : tg a0 = 9) (m0 : Mem) : G K 26 [(0, .ref (kf K a0))] [] m0 (X9_customerIs_J26 a0 m0) := by
  unfold X9_customerIs_J26
  refine g_aload_n C dX9_customerIs_26 0 rfl rfl ?_
  refine g_iconst C (1 : Int32) dX9_customerIs_27 rfl ?_
  refine g_callVi C cv_X9_error (ct_X9_error a0 (1 : Int32) h0 m0) q_990 h0 (by decide) rfl rfl (Nat.le_of_ble_eq_true rfl) dX9_customerIs_28 (fun r1 m2 => ?_)
  refine g_sub [] rfl ?_
  exact s_X9_customerIs_J31 C Rr r1 m2
set_option maxHeartbeats 2000000 in
theorem s_X9_customerIs {K : KT}  (C : Cx K cX9_customerIs RX9 3 3) (Rr : Rx K (some .int))  (a0 : Nat) (x1 : Int32) (x2 : Int32) (h0 : tg a0 = 9) (m0 : Mem) : G K 0 [(0, .ref (kf K a0)), (1, .int x1), (2, .int x2)] [] m0 (f_X9_customerIs a0 x1 x2 m0) := by
  unfold f_X9_customerIs
  refine g_aload_n C dX9_customerIs_0 0 rfl rfl ?_
  refine g_iload_n C dX9_customerIs_1 1 rfl rfl ?_
  refine g_callVi C cv_X9_isCustomer (ct_X9_isCustomer a0 x1 h0 m0) q_1065 h0 (by decide) rfl rfl (Nat.le_of_ble_eq_true rfl) dX9_customerIs_2 (fun r1 m2 => ?_)
  refine g_if_eq C 26 dX9_customerIs_5 (by decide) (fun _ => ?_) (fun _ => ?_)
  · refine g_sub [0] rfl ?_
    exact s_X9_customerIs_J26 C Rr a0 h0 m2
  · refine g_iload_n C dX9_customerIs_8 2 rfl rfl ?_
    refine g_iconst C (0 : Int32) dX9_customerIs_9 rfl ?_
    refine g_iconst C (3 : Int32) dX9_customerIs_10 rfl ?_
    refine g_callSi C cv_X9_in q_988 (ct_X9_in x2 (0 : Int32) (3 : Int32)  m2) q_987 (by decide) rfl rfl (Nat.le_of_ble_eq_true rfl) dX9_customerIs_11 (fun r3 m4 => ?_)
    refine g_if_eq C 26 dX9_customerIs_14 (by decide) (fun _ => ?_) (fun _ => ?_)
    · refine g_sub [0] rfl ?_
      exact s_X9_customerIs_J26 C Rr a0 h0 m4
    · refine g_aload_n C dX9_customerIs_17 0 rfl rfl ?_
      refine g_iload_n C dX9_customerIs_18 1 rfl rfl ?_
      refine g_iload_n C dX9_customerIs_19 2 rfl rfl ?_
      refine g_callVi C cv_X9_of (ct_X9_of a0 x1 x2 h0 m4) q_1069 h0 (by decide) rfl rfl (Nat.le_of_ble_eq_true rfl) dX9_customerIs_20 (fun r5 m6 => ?_)
      refine g_goto C 31 dX9_customerIs_23 (by decide) ?_
      refine g_sub [] rfl ?_
      exact s_X9_customerIs_J31 C Rr r5 m6
theorem ct_X9_customerIs {Ω : OT} (a0 : Nat) (x1 : Int32) (x2 : Int32) (h0 : tg a0 = 9) (m0 : Mem) : Ct Ω yX9_customerIs cX9_customerIs 3 (some .int) 3 [.ref (oF Ω a0), .int x1, .int x2] m0 (f_X9_customerIs a0 x1 x2 m0) := by
  refine Ct_of (by decide) (Nat.le_of_ble_eq_true rfl) ?_
  intro K hK C Rr
  subst hK
  exact s_X9_customerIs C Rr  a0 x1 x2 h0 m0
def f_X9_leave  (a0 : Nat) (m0 : Mem) : Res :=
  gd (inb (1 : Int32) 516) (
  (if (m0 (a0 + 1) (1 : Int32).toNatClampNeg) = 0 then
  cal (f_X9_error a0 (3 : Int32) m0) (fun r2 m3 =>
  some (r2, m3))
  else
  gd (inb (1 : Int32) 516) (
  gd (inb (1 : Int32) 516) (bnd (mset m0 (a0 + 1) (1 : Int32).toNatClampNeg ((m0 (a0 + 1) (1 : Int32).toNatClampNeg) - (1 : Int32))) (fun m1 =>
  gd (inb (1 : Int32) 516) (
  some (m1 (a0 + 1) (1 : Int32).toNatClampNeg, m1)))))))
set_option maxHeartbeats 2000000 in
theorem s_X9_leave {K : KT}  (C : Cx K cX9_leave RX9 1 2) (Rr : Rx K (some .int))  (a0 : Nat) (h0 : tg a0 = 9) (m0 : Mem) : G K 0 [(0, .ref (kf K a0))] [] m0 (f_X9_leave a0 m0) := by
  unfold f_X9_leave
  refine g_aload_n C dX9_leave_0 0 rfl rfl ?_
  refine g_getr C 0 1 Fx9 h0 (by decide) rfl rfl q_919 dX9_leave_1 ?_
  refine g_iconst C (1 : Int32) dX9_leave_4 rfl ?_
  refine g_iald (n := 516) C (cl_9_0 h0) dX9_leave_5 (fun _ => ?_)
  refine g_if_ne C 15 dX9_leave_6 (by decide) (fun _ => ?_) (fun _ => ?_)
  · refine g_aload_n C dX9_leave_15 0 rfl rfl ?_
    refine g_getr C 0 1 Fx9 h0 (by decide) rfl rfl q_919 dX9_leave_16 ?_
    refine g_iconst C (1 : Int32) dX9_leave_19 rfl ?_
    refine g_dup2 C dX9_leave_20 rfl rfl ?_
    refine g_iald (n := 516) C (cl_9_0 h0) dX9_leave_21 (fun _ => ?_)
    refine g_iconst C (1 : Int32) dX9_leave_22 rfl ?_
    refine g_isub C dX9_leave_23 ?_
    refine g_iast (n := 516) C (cl_9_0 h0) dX9_leave_24 (fun m1 => ?_)
    refine g_aload_n C dX9_leave_25 0 rfl rfl ?_
    refine g_getr C 0 1 Fx9 h0 (by decide) rfl rfl q_919 dX9_leave_26 ?_
    refine g_iconst C (1 : Int32) dX9_leave_29 rfl ?_
    refine g_iald (n := 516) C (cl_9_0 h0) dX9_leave_30 (fun _ => ?_)
    exact g_iret C Rr dX9_leave_31
  · refine g_aload_n C dX9_leave_9 0 rfl rfl ?_
    refine g_iconst C (3 : Int32) dX9_leave_10 rfl ?_
    refine g_callVi C cv_X9_error (ct_X9_error a0 (3 : Int32) h0 m0) q_990 h0 (by decide) rfl rfl (Nat.le_of_ble_eq_true rfl) dX9_leave_11 (fun r2 m3 => ?_)
    exact g_iret C Rr dX9_leave_14
theorem ct_X9_leave {Ω : OT} (a0 : Nat) (h0 : tg a0 = 9) (m0 : Mem) : Ct Ω yX9_leave cX9_leave 1 (some .int) 2 [.ref (oF Ω a0)] m0 (f_X9_leave a0 m0) := by
  refine Ct_of (by decide) (Nat.le_of_ble_eq_true rfl) ?_
  intro K hK C Rr
  subst hK
  exact s_X9_leave C Rr  a0 h0 m0
def X9_feed_L39B  (k39 : Nat → Int64 → Int32 → Int32 → Mem → Res) (a0 : Nat) (w1 : Int64) (x3 : Int32) (x4 : Int32) (m0 : Mem) : Res :=
  (if x3 ≤ x4 then
  gd (inb (6 : Int32) 516) (
  some (m0 (a0 + 1) (6 : Int32).toNatClampNeg, m0))
  else
  gd (inb (6 : Int32) 516) (
  gd (inb ((432 : Int32) + (m0 (a0 + 1) (6 : Int32).toNatClampNeg)) 516) (bnd (mset m0 (a0 + 1) ((432 : Int32) + (m0 (a0 + 1) (6 : Int32).toNatClampNeg)).toNatClampNeg (((lsr w1 ((8 : Int32) * x4)) &&& (255 : Int64)).toInt32)) (fun m1 =>
  gd (inb (6 : Int32) 516) (
  gd (inb (6 : Int32) 516) (bnd (mset m1 (a0 + 1) (6 : Int32).toNatClampNeg ((m1 (a0 + 1) (6 : Int32).toNatClampNeg) + (1 : Int32))) (fun m2 =>
  bnd (x4 + (1 : Int32)) (fun y3 =>
  k39 a0 w1 x3 y3 m2))))))))
def X9_feed_L39   : Nat → Nat → Int64 → Int32 → Int32 → Mem → Res
  | 0 => fun _ _ _ _ _ => none
  | n + 1 => X9_feed_L39B (X9_feed_L39 n)
def f_X9_feed  (a0 : Nat) (w1 : Int64) (x3 : Int32) (m0 : Mem) : Res :=
  cal (f_X9_in x3 (1 : Int32) (8 : Int32) m0) (fun r1 m2 =>
  (if r1 = 0 then
  cal (f_X9_error a0 (1 : Int32) m2) (fun r5 m6 =>
  some (r5, m6))
  else
  gd (inb (6 : Int32) 516) (
  (if ((m2 (a0 + 1) (6 : Int32).toNatClampNeg) + x3) ≤ (60 : Int32) then
  X9_feed_L39 FU a0 w1 x3 (0 : Int32) m2
  else
  cal (f_X9_error a0 (4 : Int32) m2) (fun r3 m4 =>
  some (r3, m4))))))
set_option maxHeartbeats 2000000 in
theorem s_X9_feed_L39B {K : KT}  (C : Cx K cX9_feed RX9 5 2) (Rr : Rx K (some .int))  {k39 : Nat → Int64 → Int32 → Int32 → Mem → Res} (hk39 : ∀ (a0 : Nat) (w1 : Int64) (x3 : Int32) (x4 : Int32) (h0 : tg a0 = 9) (m0 : Mem), G K 39 [(0, .ref (kf K a0)), (1, .long w1), (3, .int x3), (4, .int x4)] [] m0 (k39 a0 w1 x3 x4 m0)) (a0 : Nat) (w1 : Int64) (x3 : Int32) (x4 : Int32) (h0 : tg a0 = 9) (m0 : Mem) : G K 39 [(0, .ref (kf K a0)), (1, .long w1), (3, .int x3), (4, .int x4)] [] m0 (X9_feed_L39B k39 a0 w1 x3 x4 m0) := by
  unfold X9_feed_L39B
  refine g_iload C dX9_feed_39 3 rfl ?_
  refine g_iload_n C dX9_feed_41 2 rfl rfl ?_
  refine g_icmp_ge C 90 dX9_feed_42 (by decide) (fun _ => ?_) (fun _ => ?_)
  · refine g_aload_n C dX9_feed_90 0 rfl rfl ?_
    refine g_getr C 0 1 Fx9 h0 (by decide) rfl rfl q_919 dX9_feed_91 ?_
    refine g_bipush C (6 : Int32) dX9_feed_94 rfl ?_
    refine g_iald (n := 516) C (cl_9_0 h0) dX9_feed_96 (fun _ => ?_)
    exact g_iret C Rr dX9_feed_97
  · refine g_aload_n C dX9_feed_45 0 rfl rfl ?_
    refine g_getr C 0 1 Fx9 h0 (by decide) rfl rfl q_919 dX9_feed_46 ?_
    refine g_sipush C (432 : Int32) dX9_feed_49 rfl ?_
    refine g_aload_n C dX9_feed_52 0 rfl rfl ?_
    refine g_getr C 0 1 Fx9 h0 (by decide) rfl rfl q_919 dX9_feed_53 ?_
    refine g_bipush C (6 : Int32) dX9_feed_56 rfl ?_
    refine g_iald (n := 516) C (cl_9_0 h0) dX9_feed_58 (fun _ => ?_)
    refine g_iadd C dX9_feed_59 ?_
    refine g_lload_n C dX9_feed_60 1 rfl rfl ?_
    refine g_bipush C (8 : Int32) dX9_feed_61 rfl ?_
    refine g_iload C dX9_feed_63 3 rfl ?_
    refine g_imul C dX9_feed_65 ?_
    refine g_lshr C dX9_feed_66 ?_
    refine g_ldc2 (v := (255 : Int64)) C q_1081 dX9_feed_67 ?_
    refine g_land C dX9_feed_70 ?_
    refine g_l2i C dX9_feed_71 ?_
    refine g_iast (n := 516) C (cl_9_0 h0) dX9_feed_72 (fun m1 => ?_)
    refine g_aload_n C dX9_feed_73 0 rfl rfl ?_
    refine g_getr C 0 1 Fx9 h0 (by decide) rfl rfl q_919 dX9_feed_74 ?_
    refine g_bipush C (6 : Int32) dX9_feed_77 rfl ?_
    refine g_dup2 C dX9_feed_79 rfl rfl ?_
    refine g_iald (n := 516) C (cl_9_0 h0) dX9_feed_80 (fun _ => ?_)
    refine g_iconst C (1 : Int32) dX9_feed_81 rfl ?_
    refine g_iadd C dX9_feed_82 ?_
    refine g_iast (n := 516) C (cl_9_0 h0) dX9_feed_83 (fun m2 => ?_)
    refine g_iinc (k := 3) C dX9_feed_84 rfl (w := (1 : Int32)) rfl (by decide) (fun v_ => [(4, .int v_), (0, .ref (kf K a0)), (1, .long w1), (3, .int x3)]) (fun _ => rfl) (fun y3 => ?_)
    refine g_goto C 39 dX9_feed_87 (by decide) ?_
    refine g_sub [1, 2, 3, 0] rfl ?_
    exact hk39 a0 w1 x3 y3 h0 m2
theorem s_X9_feed_L39 {K : KT}  (C : Cx K cX9_feed RX9 5 2) (Rr : Rx K (some .int))    : ∀ (n : Nat) (a0 : Nat) (w1 : Int64) (x3 : Int32) (x4 : Int32) (h0 : tg a0 = 9) (m0 : Mem), G K 39 [(0, .ref (kf K a0)), (1, .long w1), (3, .int x3), (4, .int x4)] [] m0 (X9_feed_L39 n a0 w1 x3 x4 m0) := by
  intro n
  induction n with
  | zero => intros; exact g_none
  | succ n ih =>
    intro a0 w1 x3 x4 h0 m0
    exact s_X9_feed_L39B C Rr  ih a0 w1 x3 x4 h0 m0
set_option maxHeartbeats 2000000 in
theorem s_X9_feed {K : KT}  (C : Cx K cX9_feed RX9 5 2) (Rr : Rx K (some .int))  (a0 : Nat) (w1 : Int64) (x3 : Int32) (h0 : tg a0 = 9) (m0 : Mem) : G K 0 [(0, .ref (kf K a0)), (1, .long w1), (3, .int x3)] [] m0 (f_X9_feed a0 w1 x3 m0) := by
  unfold f_X9_feed
  refine g_iload_n C dX9_feed_0 2 rfl rfl ?_
  refine g_iconst C (1 : Int32) dX9_feed_1 rfl ?_
  refine g_bipush C (8 : Int32) dX9_feed_2 rfl ?_
  refine g_callSi C cv_X9_in q_988 (ct_X9_in x3 (1 : Int32) (8 : Int32)  m0) q_987 (by decide) rfl rfl (Nat.le_of_ble_eq_true rfl) dX9_feed_4 (fun r1 m2 => ?_)
  refine g_if_ne C 16 dX9_feed_7 (by decide) (fun _ => ?_) (fun _ => ?_)
  · refine g_aload_n C dX9_feed_16 0 rfl rfl ?_
    refine g_getr C 0 1 Fx9 h0 (by decide) rfl rfl q_919 dX9_feed_17 ?_
    refine g_bipush C (6 : Int32) dX9_feed_20 rfl ?_
    refine g_iald (n := 516) C (cl_9_0 h0) dX9_feed_22 (fun _ => ?_)
    refine g_iload_n C dX9_feed_23 2 rfl rfl ?_
    refine g_iadd C dX9_feed_24 ?_
    refine g_bipush C (60 : Int32) dX9_feed_25 rfl ?_
    refine g_icmp_le C 36 dX9_feed_27 (by decide) (fun _ => ?_) (fun _ => ?_)
    · refine g_iconst C (0 : Int32) dX9_feed_36 rfl ?_
      refine g_istore C dX9_feed_37 (by decide) rfl ?_
      refine g_sub [1, 2, 3, 0] rfl ?_
      exact s_X9_feed_L39 C Rr FU a0 w1 x3 (0 : Int32) h0 m2
    · refine g_aload_n C dX9_feed_30 0 rfl rfl ?_
      refine g_iconst C (4 : Int32) dX9_feed_31 rfl ?_
      refine g_callVi C cv_X9_error (ct_X9_error a0 (4 : Int32) h0 m2) q_990 h0 (by decide) rfl rfl (Nat.le_of_ble_eq_true rfl) dX9_feed_32 (fun r3 m4 => ?_)
      exact g_iret C Rr dX9_feed_35
  · refine g_aload_n C dX9_feed_10 0 rfl rfl ?_
    refine g_iconst C (1 : Int32) dX9_feed_11 rfl ?_
    refine g_callVi C cv_X9_error (ct_X9_error a0 (1 : Int32) h0 m2) q_990 h0 (by decide) rfl rfl (Nat.le_of_ble_eq_true rfl) dX9_feed_12 (fun r5 m6 => ?_)
    exact g_iret C Rr dX9_feed_15
theorem ct_X9_feed {Ω : OT} (a0 : Nat) (w1 : Int64) (x3 : Int32) (h0 : tg a0 = 9) (m0 : Mem) : Ct Ω yX9_feed cX9_feed 5 (some .int) 2 [.ref (oF Ω a0), .long w1, .int x3] m0 (f_X9_feed a0 w1 x3 m0) := by
  refine Ct_of (by decide) (Nat.le_of_ble_eq_true rfl) ?_
  intro K hK C Rr
  subst hK
  exact s_X9_feed C Rr  a0 w1 x3 h0 m0
def X9_look_J31   (xs0 : Int32) (m0 : Mem) : Res :=
  some (xs0, m0)
def f_X9_look  (a0 : Nat) (m0 : Mem) : Res :=
  gd (inb (6 : Int32) 516) (
  (if (m0 (a0 + 1) (6 : Int32).toNatClampNeg) ≤ (m0 a0 5) then
  X9_look_J31 (-1 : Int32) m0
  else
  gd (inb ((432 : Int32) + (m0 a0 5)) 516) (
  X9_look_J31 (m0 (a0 + 1) ((432 : Int32) + (m0 a0 5)).toNatClampNeg) m0)))
set_option maxHeartbeats 2000000 in
theorem s_X9_look_J31 {K : KT}  (C : Cx K cX9_look RX9 1 1) (Rr : Rx K (some .int))    (xs0 : Int32)  (m0 : Mem) : G K 31 [] [.int xs0] m0 (X9_look_J31 xs0 m0) := by
  unfold X9_look_J31
  exact g_iret C Rr dX9_look_31
set_option maxHeartbeats 2000000 in
theorem s_X9_look {K : KT}  (C : Cx K cX9_look RX9 1 1) (Rr : Rx K (some .int))  (a0 : Nat) (h0 : tg a0 = 9) (m0 : Mem) : G K 0 [(0, .ref (kf K a0))] [] m0 (f_X9_look a0 m0) := by
  unfold f_X9_look
  refine g_aload_n C dX9_look_0 0 rfl rfl ?_
  refine g_geti C 5 Fx9 h0 (by decide) rfl rfl q_924 dX9_look_1 ?_
  refine g_aload_n C dX9_look_4 0 rfl rfl ?_
  refine g_getr C 0 1 Fx9 h0 (by decide) rfl rfl q_919 dX9_look_5 ?_
  refine g_bipush C (6 : Int32) dX9_look_8 rfl ?_
  refine g_iald (n := 516) C (cl_9_0 h0) dX9_look_10 (fun _ => ?_)
  refine g_icmp_ge C 30 dX9_look_11 (by decide) (fun _ => ?_) (fun _ => ?_)
  · refine g_iconst C (-1 : Int32) dX9_look_30 rfl ?_
    refine g_sub [] rfl ?_
    exact s_X9_look_J31 C Rr (-1 : Int32) m0
  · refine g_aload_n C dX9_look_14 0 rfl rfl ?_
    refine g_getr C 0 1 Fx9 h0 (by decide) rfl rfl q_919 dX9_look_15 ?_
    refine g_sipush C (432 : Int32) dX9_look_18 rfl ?_
    refine g_aload_n C dX9_look_21 0 rfl rfl ?_
    refine g_geti C 5 Fx9 h0 (by decide) rfl rfl q_924 dX9_look_22 ?_
    refine g_iadd C dX9_look_25 ?_
    refine g_iald (n := 516) C (cl_9_0 h0) dX9_look_26 (fun _ => ?_)
    refine g_goto C 31 dX9_look_27 (by decide) ?_
    refine g_sub [] rfl ?_
    exact s_X9_look_J31 C Rr (m0 (a0 + 1) ((432 : Int32) + (m0 a0 5)).toNatClampNeg) m0
theorem ct_X9_look {Ω : OT} (a0 : Nat) (h0 : tg a0 = 9) (m0 : Mem) : Ct Ω yX9_look cX9_look 1 (some .int) 1 [.ref (oF Ω a0)] m0 (f_X9_look a0 m0) := by
  refine Ct_of (by decide) (Nat.le_of_ble_eq_true rfl) ?_
  intro K hK C Rr
  subst hK
  exact s_X9_look C Rr  a0 h0 m0
def X9_isName_J64   (xs0 : Int32) (m0 : Mem) : Res :=
  gd (isb xs0) (some (xs0, m0))
def X9_isName_J59    (m0 : Mem) : Res :=
  X9_isName_J64 (1 : Int32) m0
def X9_isName_J33    (m0 : Mem) : Res :=
  X9_isName_J64 (1 : Int32) m0
def f_X9_isName  (a0 : Nat) (x1 : Int32) (m0 : Mem) : Res :=
  (if x1 = (109 : Int32) then
  gd (isb (1 : Int32)) (some ((1 : Int32), m0))
  else
  (if (m0 a0 8) = 0 then
  (if x1 = (107 : Int32) then
  X9_isName_J33 m0
  else
  (if x1 = (108 : Int32) then
  X9_isName_J33 m0
  else
  (if x1 = (103 : Int32) then
  X9_isName_J33 m0
  else
  X9_isName_J64 (0 : Int32) m0)))
  else
  (if x1 = (99 : Int32) then
  X9_isName_J59 m0
  else
  (if x1 = (115 : Int32) then
  X9_isName_J59 m0
  else
  (if x1 = (100 : Int32) then
  X9_isName_J59 m0
  else
  X9_isName_J64 (0 : Int32) m0)))))
set_option maxHeartbeats 2000000 in
theorem s_X9_isName_J64 {K : KT}  (C : Cx K cX9_isName RX9 2 1) (Rr : Rx K (some .boolean))    (xs0 : Int32)  (m0 : Mem) : G K 64 [] [.int xs0] m0 (X9_isName_J64 xs0 m0) := by
  unfold X9_isName_J64
  exact g_zret C Rr dX9_isName_64
set_option maxHeartbeats 2000000 in
theorem s_X9_isName_J59 {K : KT}  (C : Cx K cX9_isName RX9 2 1) (Rr : Rx K (some .boolean))      (m0 : Mem) : G K 59 [] [] m0 (X9_isName_J59 m0) := by
  unfold X9_isName_J59
  refine g_iconst C (1 : Int32) dX9_isName_59 rfl ?_
  refine g_goto C 64 dX9_isName_60 (by decide) ?_
  refine g_sub [] rfl ?_
  exact s_X9_isName_J64 C Rr (1 : Int32) m0
set_option maxHeartbeats 2000000 in
theorem s_X9_isName_J33 {K : KT}  (C : Cx K cX9_isName RX9 2 1) (Rr : Rx K (some .boolean))      (m0 : Mem) : G K 33 [] [] m0 (X9_isName_J33 m0) := by
  unfold X9_isName_J33
  refine g_iconst C (1 : Int32) dX9_isName_33 rfl ?_
  refine g_goto C 64 dX9_isName_34 (by decide) ?_
  refine g_sub [] rfl ?_
  exact s_X9_isName_J64 C Rr (1 : Int32) m0
set_option maxHeartbeats 2000000 in
theorem s_X9_isName {K : KT}  (C : Cx K cX9_isName RX9 2 1) (Rr : Rx K (some .boolean))  (a0 : Nat) (x1 : Int32) (h0 : tg a0 = 9) (m0 : Mem) : G K 0 [(0, .ref (kf K a0)), (1, .int x1)] [] m0 (f_X9_isName a0 x1 m0) := by
  unfold f_X9_isName
  refine g_iload_n C dX9_isName_0 1 rfl rfl ?_
  refine g_bipush C (109 : Int32) dX9_isName_1 rfl ?_
  refine g_icmp_ne C 8 dX9_isName_3 (by decide) (fun _ => ?_) (fun _ => ?_)
  · refine g_aload_n C dX9_isName_8 0 rfl rfl ?_
    refine g_geti C 8 Fx9 h0 (by decide) rfl rfl q_927 dX9_isName_9 ?_
    refine g_if_ne C 41 dX9_isName_12 (by decide) (fun _ => ?_) (fun _ => ?_)
    · refine g_iload_n C dX9_isName_41 1 rfl rfl ?_
      refine g_bipush C (99 : Int32) dX9_isName_42 rfl ?_
      refine g_icmp_eq C 59 dX9_isName_44 (by decide) (fun _ => ?_) (fun _ => ?_)
      · refine g_sub [] rfl ?_
        exact s_X9_isName_J59 C Rr m0
      · refine g_iload_n C dX9_isName_47 1 rfl rfl ?_
        refine g_bipush C (115 : Int32) dX9_isName_48 rfl ?_
        refine g_icmp_eq C 59 dX9_isName_50 (by decide) (fun _ => ?_) (fun _ => ?_)
        · refine g_sub [] rfl ?_
          exact s_X9_isName_J59 C Rr m0
        · refine g_iload_n C dX9_isName_53 1 rfl rfl ?_
          refine g_bipush C (100 : Int32) dX9_isName_54 rfl ?_
          refine g_icmp_ne C 63 dX9_isName_56 (by decide) (fun _ => ?_) (fun _ => ?_)
          · refine g_iconst C (0 : Int32) dX9_isName_63 rfl ?_
            refine g_sub [] rfl ?_
            exact s_X9_isName_J64 C Rr (0 : Int32) m0
          · refine g_sub [] rfl ?_
            exact s_X9_isName_J59 C Rr m0
    · refine g_iload_n C dX9_isName_15 1 rfl rfl ?_
      refine g_bipush C (107 : Int32) dX9_isName_16 rfl ?_
      refine g_icmp_eq C 33 dX9_isName_18 (by decide) (fun _ => ?_) (fun _ => ?_)
      · refine g_sub [] rfl ?_
        exact s_X9_isName_J33 C Rr m0
      · refine g_iload_n C dX9_isName_21 1 rfl rfl ?_
        refine g_bipush C (108 : Int32) dX9_isName_22 rfl ?_
        refine g_icmp_eq C 33 dX9_isName_24 (by decide) (fun _ => ?_) (fun _ => ?_)
        · refine g_sub [] rfl ?_
          exact s_X9_isName_J33 C Rr m0
        · refine g_iload_n C dX9_isName_27 1 rfl rfl ?_
          refine g_bipush C (103 : Int32) dX9_isName_28 rfl ?_
          refine g_icmp_ne C 37 dX9_isName_30 (by decide) (fun _ => ?_) (fun _ => ?_)
          · refine g_iconst C (0 : Int32) dX9_isName_37 rfl ?_
            refine g_goto C 64 dX9_isName_38 (by decide) ?_
            refine g_sub [] rfl ?_
            exact s_X9_isName_J64 C Rr (0 : Int32) m0
          · refine g_sub [] rfl ?_
            exact s_X9_isName_J33 C Rr m0
  · refine g_iconst C (1 : Int32) dX9_isName_6 rfl ?_
    exact g_zret C Rr dX9_isName_7
theorem ct_X9_isName {Ω : OT} (a0 : Nat) (x1 : Int32) (h0 : tg a0 = 9) (m0 : Mem) : Ct Ω yX9_isName cX9_isName 2 (some .boolean) 1 [.ref (oF Ω a0), .int x1] m0 (f_X9_isName a0 x1 m0) := by
  refine Ct_of (by decide) (Nat.le_of_ble_eq_true rfl) ?_
  intro K hK C Rr
  subst hK
  exact s_X9_isName C Rr  a0 x1 h0 m0
def f_X9_lays  (a0 : Nat) (x1 : Int32) (x2 : Int32) (m0 : Mem) : Res :=
  gd (inb ((2 : Int32) * (m0 a0 7)) 124) (bnd (mset m0 (a0 + 5) ((2 : Int32) * (m0 a0 7)).toNatClampNeg x1) (fun m1 =>
  gd (inb (((2 : Int32) * (m1 a0 7)) + (1 : Int32)) 124) (bnd (mset m1 (a0 + 5) (((2 : Int32) * (m1 a0 7)) + (1 : Int32)).toNatClampNeg x2) (fun m2 =>
  bnd (mset m2 a0 7 ((m2 a0 7) + (1 : Int32))) (fun m3 =>
  some (0, m3))))))
set_option maxHeartbeats 2000000 in
theorem s_X9_lays {K : KT}  (C : Cx K cX9_lays RX9 3 1) (Rr : Rx K none)  (a0 : Nat) (x1 : Int32) (x2 : Int32) (h0 : tg a0 = 9) (m0 : Mem) : G K 0 [(0, .ref (kf K a0)), (1, .int x1), (2, .int x2)] [] m0 (f_X9_lays a0 x1 x2 m0) := by
  unfold f_X9_lays
  refine g_aload_n C dX9_lays_0 0 rfl rfl ?_
  refine g_getr C 9 5 Fx9 h0 (by decide) rfl rfl q_928 dX9_lays_1 ?_
  refine g_iconst C (2 : Int32) dX9_lays_4 rfl ?_
  refine g_aload_n C dX9_lays_5 0 rfl rfl ?_
  refine g_geti C 7 Fx9 h0 (by decide) rfl rfl q_926 dX9_lays_6 ?_
  refine g_imul C dX9_lays_9 ?_
  refine g_iload_n C dX9_lays_10 1 rfl rfl ?_
  refine g_iast (n := 124) C (cl_9_9 h0) dX9_lays_11 (fun m1 => ?_)
  refine g_aload_n C dX9_lays_12 0 rfl rfl ?_
  refine g_getr C 9 5 Fx9 h0 (by decide) rfl rfl q_928 dX9_lays_13 ?_
  refine g_iconst C (2 : Int32) dX9_lays_16 rfl ?_
  refine g_aload_n C dX9_lays_17 0 rfl rfl ?_
  refine g_geti C 7 Fx9 h0 (by decide) rfl rfl q_926 dX9_lays_18 ?_
  refine g_imul C dX9_lays_21 ?_
  refine g_iconst C (1 : Int32) dX9_lays_22 rfl ?_
  refine g_iadd C dX9_lays_23 ?_
  refine g_iload_n C dX9_lays_24 2 rfl rfl ?_
  refine g_iast (n := 124) C (cl_9_9 h0) dX9_lays_25 (fun m2 => ?_)
  refine g_aload_n C dX9_lays_26 0 rfl rfl ?_
  refine g_dup C dX9_lays_27 rfl ?_
  refine g_geti C 7 Fx9 h0 (by decide) rfl rfl q_926 dX9_lays_28 ?_
  refine g_iconst C (1 : Int32) dX9_lays_31 rfl ?_
  refine g_iadd C dX9_lays_32 ?_
  refine g_puti C 7 Fx9 h0 (by decide) rfl rfl rfl rfl q_926 dX9_lays_33 (fun m3 => ?_)
  exact g_vret C Rr dX9_lays_36
theorem ct_X9_lays {Ω : OT} (a0 : Nat) (x1 : Int32) (x2 : Int32) (h0 : tg a0 = 9) (m0 : Mem) : Ct Ω yX9_lays cX9_lays 3 none 1 [.ref (oF Ω a0), .int x1, .int x2] m0 (f_X9_lays a0 x1 x2 m0) := by
  refine Ct_of (by decide) (Nat.le_of_ble_eq_true rfl) ?_
  intro K hK C Rr
  subst hK
  exact s_X9_lays C Rr  a0 x1 x2 h0 m0
def X9_product_J36 (R : Nat → Mem → Res) (k9 : Nat → Mem → Res) (a0 : Nat) (m0 : Mem) : Res :=
  cal (f_X9_look a0 m0) (fun r1 m2 =>
  bnd (mset m2 a0 5 ((m2 a0 5) + (1 : Int32))) (fun m3 =>
  cal (R a0 m3) (fun r4 m5 =>
  (if r4 = 0 then
  gd (isb (0 : Int32)) (some ((0 : Int32), m5))
  else
  cal (f_X9_lays a0 (3 : Int32) r1 m5) (fun r6 m7 =>
  k9 a0 m7)))))
def X9_product_L9B (R : Nat → Mem → Res) (k9 : Nat → Mem → Res) (a0 : Nat) (m0 : Mem) : Res :=
  cal (f_X9_look a0 m0) (fun r1 m2 =>
  (if r1 = (42 : Int32) then
  X9_product_J36 R k9 a0 m2
  else
  cal (f_X9_look a0 m2) (fun r3 m4 =>
  (if r3 = (47 : Int32) then
  X9_product_J36 R k9 a0 m4
  else
  cal (f_X9_look a0 m4) (fun r5 m6 =>
  (if r5 = (37 : Int32) then
  X9_product_J36 R k9 a0 m6
  else
  gd (isb (1 : Int32)) (some ((1 : Int32), m6))))))))
def X9_product_L9 (R : Nat → Mem → Res)  : Nat → Nat → Mem → Res
  | 0 => fun _ _ => none
  | n + 1 => X9_product_L9B R (X9_product_L9 R n)
def f_X9_product (R : Nat → Mem → Res) (a0 : Nat) (m0 : Mem) : Res :=
  cal (R a0 m0) (fun r1 m2 =>
  (if r1 = 0 then
  gd (isb (0 : Int32)) (some ((0 : Int32), m2))
  else
  X9_product_L9 R FU a0 m2))
set_option maxHeartbeats 2000000 in
theorem s_X9_product_J36 {K : KT} {R : Nat → Mem → Res} {dR : Nat} (C : Cx K cX9_product RX9 2 (dR + 1)) (Rr : Rx K (some .boolean)) (hR : ∀ (a0 : Nat) (h0 : tg a0 = 9) (m0 : Mem), Ct (kO K) yX9_one cX9_one 4 (some .boolean) dR [.ref (oF (kO K) a0)] m0 (R a0 m0)) (hd : 8 ≤ dR) {k9 : Nat → Mem → Res} (hk9 : ∀ (a0 : Nat) (h0 : tg a0 = 9) (m0 : Mem), G K 9 [(0, .ref (kf K a0))] [] m0 (k9 a0 m0)) (a0 : Nat) (h0 : tg a0 = 9) (m0 : Mem) : G K 36 [(0, .ref (kf K a0))] [] m0 (X9_product_J36 R k9 a0 m0) := by
  unfold X9_product_J36
  refine g_aload_n C dX9_product_36 0 rfl rfl ?_
  refine g_callVi C cv_X9_look (ct_X9_look a0 h0 m0) q_1110 h0 (by omega) rfl rfl (Nat.le_of_ble_eq_true rfl) dX9_product_37 (fun r1 m2 => ?_)
  refine g_istore_n C dX9_product_40 rfl (by decide) rfl ?_
  refine g_aload_n C dX9_product_41 1 rfl rfl ?_
  refine g_dup C dX9_product_42 rfl ?_
  refine g_geti C 5 Fx9 h0 (by decide) rfl rfl q_924 dX9_product_43 ?_
  refine g_iconst C (1 : Int32) dX9_product_46 rfl ?_
  refine g_iadd C dX9_product_47 ?_
  refine g_puti C 5 Fx9 h0 (by decide) rfl rfl rfl rfl q_924 dX9_product_48 (fun m3 => ?_)
  refine g_aload_n C dX9_product_51 1 rfl rfl ?_
  refine g_callVi C cv_X9_one (hR a0 h0 m3) q_1106 h0 (by omega) rfl rfl (Nat.le_of_ble_eq_true rfl) dX9_product_52 (fun r4 m5 => ?_)
  refine g_if_ne C 60 dX9_product_55 (by decide) (fun _ => ?_) (fun _ => ?_)
  · refine g_aload_n C dX9_product_60 1 rfl rfl ?_
    refine g_iconst C (3 : Int32) dX9_product_61 rfl ?_
    refine g_iload_n C dX9_product_62 0 rfl rfl ?_
    refine g_callVv C cv_X9_lays (ct_X9_lays a0 (3 : Int32) r1 h0 m5) q_1118 h0 (by omega) rfl rfl (Nat.le_of_ble_eq_true rfl) dX9_product_63 (fun r6 m7 => ?_)
    refine g_goto C 9 dX9_product_66 (by decide) ?_
    refine g_sub [1] rfl ?_
    exact hk9 a0 h0 m7
  · refine g_iconst C (0 : Int32) dX9_product_58 rfl ?_
    exact g_zret C Rr dX9_product_59
set_option maxHeartbeats 2000000 in
theorem s_X9_product_L9B {K : KT} {R : Nat → Mem → Res} {dR : Nat} (C : Cx K cX9_product RX9 2 (dR + 1)) (Rr : Rx K (some .boolean)) (hR : ∀ (a0 : Nat) (h0 : tg a0 = 9) (m0 : Mem), Ct (kO K) yX9_one cX9_one 4 (some .boolean) dR [.ref (oF (kO K) a0)] m0 (R a0 m0)) (hd : 8 ≤ dR) {k9 : Nat → Mem → Res} (hk9 : ∀ (a0 : Nat) (h0 : tg a0 = 9) (m0 : Mem), G K 9 [(0, .ref (kf K a0))] [] m0 (k9 a0 m0)) (a0 : Nat) (h0 : tg a0 = 9) (m0 : Mem) : G K 9 [(0, .ref (kf K a0))] [] m0 (X9_product_L9B R k9 a0 m0) := by
  unfold X9_product_L9B
  refine g_aload_n C dX9_product_9 0 rfl rfl ?_
  refine g_callVi C cv_X9_look (ct_X9_look a0 h0 m0) q_1110 h0 (by omega) rfl rfl (Nat.le_of_ble_eq_true rfl) dX9_product_10 (fun r1 m2 => ?_)
  refine g_bipush C (42 : Int32) dX9_product_13 rfl ?_
  refine g_icmp_eq C 36 dX9_product_15 (by decide) (fun _ => ?_) (fun _ => ?_)
  · refine g_sub [0] rfl ?_
    exact s_X9_product_J36 C Rr hR hd hk9 a0 h0 m2
  · refine g_aload_n C dX9_product_18 0 rfl rfl ?_
    refine g_callVi C cv_X9_look (ct_X9_look a0 h0 m2) q_1110 h0 (by omega) rfl rfl (Nat.le_of_ble_eq_true rfl) dX9_product_19 (fun r3 m4 => ?_)
    refine g_bipush C (47 : Int32) dX9_product_22 rfl ?_
    refine g_icmp_eq C 36 dX9_product_24 (by decide) (fun _ => ?_) (fun _ => ?_)
    · refine g_sub [0] rfl ?_
      exact s_X9_product_J36 C Rr hR hd hk9 a0 h0 m4
    · refine g_aload_n C dX9_product_27 0 rfl rfl ?_
      refine g_callVi C cv_X9_look (ct_X9_look a0 h0 m4) q_1110 h0 (by omega) rfl rfl (Nat.le_of_ble_eq_true rfl) dX9_product_28 (fun r5 m6 => ?_)
      refine g_bipush C (37 : Int32) dX9_product_31 rfl ?_
      refine g_icmp_ne C 69 dX9_product_33 (by decide) (fun _ => ?_) (fun _ => ?_)
      · refine g_iconst C (1 : Int32) dX9_product_69 rfl ?_
        exact g_zret C Rr dX9_product_70
      · refine g_sub [0] rfl ?_
        exact s_X9_product_J36 C Rr hR hd hk9 a0 h0 m6
theorem s_X9_product_L9 {K : KT} {R : Nat → Mem → Res} {dR : Nat} (C : Cx K cX9_product RX9 2 (dR + 1)) (Rr : Rx K (some .boolean)) (hR : ∀ (a0 : Nat) (h0 : tg a0 = 9) (m0 : Mem), Ct (kO K) yX9_one cX9_one 4 (some .boolean) dR [.ref (oF (kO K) a0)] m0 (R a0 m0)) (hd : 8 ≤ dR)   : ∀ (n : Nat) (a0 : Nat) (h0 : tg a0 = 9) (m0 : Mem), G K 9 [(0, .ref (kf K a0))] [] m0 (X9_product_L9 R n a0 m0) := by
  intro n
  induction n with
  | zero => intros; exact g_none
  | succ n ih =>
    intro a0 h0 m0
    exact s_X9_product_L9B C Rr hR hd ih a0 h0 m0
set_option maxHeartbeats 2000000 in
theorem s_X9_product {K : KT} {R : Nat → Mem → Res} {dR : Nat} (C : Cx K cX9_product RX9 2 (dR + 1)) (Rr : Rx K (some .boolean)) (hR : ∀ (a0 : Nat) (h0 : tg a0 = 9) (m0 : Mem), Ct (kO K) yX9_one cX9_one 4 (some .boolean) dR [.ref (oF (kO K) a0)] m0 (R a0 m0)) (hd : 8 ≤ dR) (a0 : Nat) (h0 : tg a0 = 9) (m0 : Mem) : G K 0 [(0, .ref (kf K a0))] [] m0 (f_X9_product R a0 m0) := by
  unfold f_X9_product
  refine g_aload_n C dX9_product_0 0 rfl rfl ?_
  refine g_callVi C cv_X9_one (hR a0 h0 m0) q_1106 h0 (by omega) rfl rfl (Nat.le_of_ble_eq_true rfl) dX9_product_1 (fun r1 m2 => ?_)
  refine g_if_ne C 9 dX9_product_4 (by decide) (fun _ => ?_) (fun _ => ?_)
  · refine g_sub [0] rfl ?_
    exact s_X9_product_L9 C Rr hR hd FU a0 h0 m2
  · refine g_iconst C (0 : Int32) dX9_product_7 rfl ?_
    exact g_zret C Rr dX9_product_8
theorem ct_X9_product {Ω : OT} {R : Nat → Mem → Res} {dR : Nat} (hR : ∀ (a0 : Nat) (h0 : tg a0 = 9) (m0 : Mem), Ct Ω yX9_one cX9_one 4 (some .boolean) dR [.ref (oF Ω a0)] m0 (R a0 m0)) (hd : 8 ≤ dR) (a0 : Nat) (h0 : tg a0 = 9) (m0 : Mem) : Ct Ω yX9_product cX9_product 2 (some .boolean) (dR + 1) [.ref (oF Ω a0)] m0 (f_X9_product R a0 m0) := by
  refine Ct_of (by decide) (Nat.le_of_ble_eq_true rfl) ?_
  intro K hK C Rr
  subst hK
  exact s_X9_product C Rr hR hd a0 h0 m0
