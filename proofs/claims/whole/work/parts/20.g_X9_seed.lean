def f_X9_seed  (a0 : Nat) (x1 : Int32) (m0 : Mem) : Res :=
  gd (inb (8 : Int32) 516) (
  bnd (m0 (a0 + 1) (8 : Int32).toNatClampNeg) (fun y1 =>
  gd (inb (8 : Int32) 516) (bnd (mset m0 (a0 + 1) (8 : Int32).toNatClampNeg x1) (fun m2 =>
  some (y1, m2)))))
set_option maxHeartbeats 2000000 in
theorem s_X9_seed {K : KT}  (C : Cx K cX9_seed RX9 3 1) (Rr : Rx K (some .int))  (a0 : Nat) (x1 : Int32) (h0 : tg a0 = 9) (m0 : Mem) : G K 0 [(0, .ref (kf K a0)), (1, .int x1)] [] m0 (f_X9_seed a0 x1 m0) := by
  unfold f_X9_seed
  refine g_aload_n C dX9_seed_0 0 rfl rfl ?_
  refine g_getr C 0 1 Fx9 h0 (by decide) rfl rfl q_919 dX9_seed_1 ?_
  refine g_bipush C (8 : Int32) dX9_seed_4 rfl ?_
  refine g_iald (n := 516) C (cl_9_0 h0) dX9_seed_6 (fun _ => ?_)
  refine g_bnd (fun y1 => ?_)
  refine g_istore_n C dX9_seed_7 rfl (by decide) rfl ?_
  refine g_aload_n C dX9_seed_8 1 rfl rfl ?_
  refine g_getr C 0 1 Fx9 h0 (by decide) rfl rfl q_919 dX9_seed_9 ?_
  refine g_bipush C (8 : Int32) dX9_seed_12 rfl ?_
  refine g_iload_n C dX9_seed_14 2 rfl rfl ?_
  refine g_iast (n := 516) C (cl_9_0 h0) dX9_seed_15 (fun m2 => ?_)
  refine g_iload_n C dX9_seed_16 0 rfl rfl ?_
  exact g_iret C Rr dX9_seed_17
theorem ct_X9_seed {Ω : OT} (a0 : Nat) (x1 : Int32) (h0 : tg a0 = 9) (m0 : Mem) : Ct Ω yX9_seed cX9_seed 3 (some .int) 1 [.ref (oF Ω a0), .int x1] m0 (f_X9_seed a0 x1 m0) := by
  refine Ct_of (by decide) (Nat.le_of_ble_eq_true rfl) ?_
  intro K hK C Rr
  subst hK
  exact s_X9_seed C Rr  a0 x1 h0 m0
def X9_then_J28   (a0 : Nat) (m0 : Mem) : Res :=
  cal (f_X9_error a0 (1 : Int32) m0) (fun r1 m2 =>
  some (r1, m2))
def f_X9_then  (a0 : Nat) (x1 : Int32) (x2 : Int32) (x3 : Int32) (m0 : Mem) : Res :=
  cal (f_X9_in x1 (0 : Int32) (60 : Int32) m0) (fun r1 m2 =>
  (if r1 = 0 then
  X9_then_J28 a0 m2
  else
  cal (f_X9_isShop a0 x2 m2) (fun r3 m4 =>
  (if r3 = 0 then
  X9_then_J28 a0 m4
  else
  cal (f_X9_in x3 (0 : Int32) (15 : Int32) m4) (fun r5 m6 =>
  (if r5 = 0 then
  X9_then_J28 a0 m6
  else
  cal (f_X9_carry (a0 + 1) 516 (a0 + 3) 516 m6) (fun r7 m8 =>
  cal (f_X9_go a0 x1 m8) (fun r9 m10 =>
  cal (f_X9_toldShop a0 x2 x3 m10) (fun r11 m12 =>
  cal (f_X9_carry (a0 + 3) 516 (a0 + 1) 516 m12) (fun r13 m14 =>
  some (r11, m14)))))))))))
set_option maxHeartbeats 2000000 in
theorem s_X9_then_J28 {K : KT}  (C : Cx K cX9_then RX9 5 10) (Rr : Rx K (some .int))    (a0 : Nat) (h0 : tg a0 = 9) (m0 : Mem) : G K 28 [(0, .ref (kf K a0))] [] m0 (X9_then_J28 a0 m0) := by
  unfold X9_then_J28
  refine g_aload_n C dX9_then_28 0 rfl rfl ?_
  refine g_iconst C (1 : Int32) dX9_then_29 rfl ?_
  refine g_callVi C cv_X9_error (ct_X9_error a0 (1 : Int32) h0 m0) q_990 h0 (by decide) rfl rfl (Nat.le_of_ble_eq_true rfl) dX9_then_30 (fun r1 m2 => ?_)
  exact g_iret C Rr dX9_then_33
set_option maxHeartbeats 2000000 in
theorem s_X9_then {K : KT}  (C : Cx K cX9_then RX9 5 10) (Rr : Rx K (some .int))  (a0 : Nat) (x1 : Int32) (x2 : Int32) (x3 : Int32) (h0 : tg a0 = 9) (m0 : Mem) : G K 0 [(0, .ref (kf K a0)), (1, .int x1), (2, .int x2), (3, .int x3)] [] m0 (f_X9_then a0 x1 x2 x3 m0) := by
  unfold f_X9_then
  refine g_iload_n C dX9_then_0 1 rfl rfl ?_
  refine g_iconst C (0 : Int32) dX9_then_1 rfl ?_
  refine g_bipush C (60 : Int32) dX9_then_2 rfl ?_
  refine g_callSi C cv_X9_in q_988 (ct_X9_in x1 (0 : Int32) (60 : Int32)  m0) q_987 (by decide) rfl rfl (Nat.le_of_ble_eq_true rfl) dX9_then_4 (fun r1 m2 => ?_)
  refine g_if_eq C 28 dX9_then_7 (by decide) (fun _ => ?_) (fun _ => ?_)
  · refine g_sub [0] rfl ?_
    exact s_X9_then_J28 C Rr a0 h0 m2
  · refine g_aload_n C dX9_then_10 0 rfl rfl ?_
    refine g_iload_n C dX9_then_11 2 rfl rfl ?_
    refine g_callVi C cv_X9_isShop (ct_X9_isShop a0 x2 h0 m2) q_1011 h0 (by decide) rfl rfl (Nat.le_of_ble_eq_true rfl) dX9_then_12 (fun r3 m4 => ?_)
    refine g_if_eq C 28 dX9_then_15 (by decide) (fun _ => ?_) (fun _ => ?_)
    · refine g_sub [0] rfl ?_
      exact s_X9_then_J28 C Rr a0 h0 m4
    · refine g_iload_n C dX9_then_18 3 rfl rfl ?_
      refine g_iconst C (0 : Int32) dX9_then_19 rfl ?_
      refine g_bipush C (15 : Int32) dX9_then_20 rfl ?_
      refine g_callSi C cv_X9_in q_988 (ct_X9_in x3 (0 : Int32) (15 : Int32)  m4) q_987 (by decide) rfl rfl (Nat.le_of_ble_eq_true rfl) dX9_then_22 (fun r5 m6 => ?_)
      refine g_if_ne C 34 dX9_then_25 (by decide) (fun _ => ?_) (fun _ => ?_)
      · refine g_aload_n C dX9_then_34 0 rfl rfl ?_
        refine g_getr C 0 1 Fx9 h0 (by decide) rfl rfl q_919 dX9_then_35 ?_
        refine g_aload_n C dX9_then_38 0 rfl rfl ?_
        refine g_getr C 2 3 Fx9 h0 (by decide) rfl rfl q_921 dX9_then_39 ?_
        refine g_callSv C cv_X9_carry q_1243 (ct_X9_carry (a0 + 1) 516 (a0 + 3) 516 (cl_9_0 h0) (cl_9_2 h0) m6) q_1242 (by decide) rfl rfl (Nat.le_of_ble_eq_true rfl) dX9_then_42 (fun r7 m8 => ?_)
        refine g_aload_n C dX9_then_45 0 rfl rfl ?_
        refine g_iload_n C dX9_then_46 1 rfl rfl ?_
        refine g_callVv C cv_X9_go (ct_X9_go a0 x1 h0 m8) q_1214 h0 (by decide) rfl rfl (Nat.le_of_ble_eq_true rfl) dX9_then_47 (fun r9 m10 => ?_)
        refine g_aload_n C dX9_then_50 0 rfl rfl ?_
        refine g_iload_n C dX9_then_51 2 rfl rfl ?_
        refine g_iload_n C dX9_then_52 3 rfl rfl ?_
        refine g_callVi C cv_X9_toldShop (ct_X9_toldShop a0 x2 x3 h0 m10) q_1015 h0 (by decide) rfl rfl (Nat.le_of_ble_eq_true rfl) dX9_then_53 (fun r11 m12 => ?_)
        refine g_istore C dX9_then_56 (by decide) rfl ?_
        refine g_aload_n C dX9_then_58 1 rfl rfl ?_
        refine g_getr C 2 3 Fx9 h0 (by decide) rfl rfl q_921 dX9_then_59 ?_
        refine g_aload_n C dX9_then_62 1 rfl rfl ?_
        refine g_getr C 0 1 Fx9 h0 (by decide) rfl rfl q_919 dX9_then_63 ?_
        refine g_callSv C cv_X9_carry q_1243 (ct_X9_carry (a0 + 3) 516 (a0 + 1) 516 (cl_9_2 h0) (cl_9_0 h0) m12) q_1242 (by decide) rfl rfl (Nat.le_of_ble_eq_true rfl) dX9_then_66 (fun r13 m14 => ?_)
        refine g_iload C dX9_then_69 0 rfl ?_
        exact g_iret C Rr dX9_then_71
      · refine g_sub [0] rfl ?_
        exact s_X9_then_J28 C Rr a0 h0 m6
theorem ct_X9_then {Ω : OT} (a0 : Nat) (x1 : Int32) (x2 : Int32) (x3 : Int32) (h0 : tg a0 = 9) (m0 : Mem) : Ct Ω yX9_then cX9_then 5 (some .int) 10 [.ref (oF Ω a0), .int x1, .int x2, .int x3] m0 (f_X9_then a0 x1 x2 x3 m0) := by
  refine Ct_of (by decide) (Nat.le_of_ble_eq_true rfl) ?_
  intro K hK C Rr
  subst hK
  exact s_X9_then C Rr  a0 x1 x2 x3 h0 m0
def X9_keep_J25   (a0 : Nat) (m0 : Mem) : Res :=
  cal (f_X9_error a0 (1 : Int32) m0) (fun r1 m2 =>
  some (r1, m2))
def X9_keep_J112  (k40 : Nat → Int32 → Int32 → Int32 → Int32 → Int32 → Int32 → Mem → Res) (a0 : Nat) (x1 : Int32) (x2 : Int32) (x3 : Int32) (x4 : Int32) (x5 : Int32) (x6 : Int32) (m0 : Mem) : Res :=
  bnd (x6 + (1 : Int32)) (fun y1 =>
  k40 a0 x1 x2 x3 x4 x5 y1 m0)
def X9_keep_J104  (k40 : Nat → Int32 → Int32 → Int32 → Int32 → Int32 → Int32 → Mem → Res) (a0 : Nat) (x1 : Int32) (x2 : Int32) (x3 : Int32) (x6 : Int32) (x7 : Int32) (m0 : Mem) : Res :=
  X9_keep_J112 k40 a0 x1 x2 x3 x6 x7 x6 m0
def X9_keep_L40B  (k40 : Nat → Int32 → Int32 → Int32 → Int32 → Int32 → Int32 → Mem → Res) (a0 : Nat) (x1 : Int32) (x2 : Int32) (x3 : Int32) (x4 : Int32) (x5 : Int32) (x6 : Int32) (m0 : Mem) : Res :=
  (if (10 : Int32) ≤ x6 then
  some (x4, m0)
  else
  cal (f_X9_carry (a0 + 1) 516 (a0 + 3) 516 m0) (fun r1 m2 =>
  cal (f_X9_lays1 a0 x1 ((3 : Int32) + x2) x6 m2) (fun r3 m4 =>
  cal (f_X9_go a0 x3 m4) (fun r5 m6 =>
  cal (f_X9_its a0 x1 (2 : Int32) m6) (fun r7 m8 =>
  cal (f_X9_carry (a0 + 3) 516 (a0 + 1) 516 m8) (fun r9 m10 =>
  (if x6 = 0 then
  X9_keep_J104 k40 a0 x1 x2 x3 x6 r7 m10
  else
  (if r7 ≤ x5 then
  X9_keep_J112 k40 a0 x1 x2 x3 x4 x5 x6 m10
  else
  X9_keep_J104 k40 a0 x1 x2 x3 x6 r7 m10))))))))
def X9_keep_L40   : Nat → Nat → Int32 → Int32 → Int32 → Int32 → Int32 → Int32 → Mem → Res
  | 0 => fun _ _ _ _ _ _ _ _ => none
  | n + 1 => X9_keep_L40B (X9_keep_L40 n)
def f_X9_keep  (a0 : Nat) (x1 : Int32) (x2 : Int32) (x3 : Int32) (m0 : Mem) : Res :=
  cal (f_X9_isShop a0 x1 m0) (fun r1 m2 =>
  (if r1 = 0 then
  X9_keep_J25 a0 m2
  else
  cal (f_X9_isGood x2 m2) (fun r3 m4 =>
  (if r3 = 0 then
  X9_keep_J25 a0 m4
  else
  cal (f_X9_in x3 (1 : Int32) (20 : Int32) m4) (fun r5 m6 =>
  (if r5 = 0 then
  X9_keep_J25 a0 m6
  else
  X9_keep_L40 FU a0 x1 x2 x3 (0 : Int32) (0 : Int32) (0 : Int32) m6))))))
set_option maxHeartbeats 2000000 in
theorem s_X9_keep_J25 {K : KT}  (C : Cx K cX9_keep RX9 8 10) (Rr : Rx K (some .int))    (a0 : Nat) (h0 : tg a0 = 9) (m0 : Mem) : G K 25 [(0, .ref (kf K a0))] [] m0 (X9_keep_J25 a0 m0) := by
  unfold X9_keep_J25
  refine g_aload_n C dX9_keep_25 0 rfl rfl ?_
  refine g_iconst C (1 : Int32) dX9_keep_26 rfl ?_
  refine g_callVi C cv_X9_error (ct_X9_error a0 (1 : Int32) h0 m0) q_990 h0 (by decide) rfl rfl (Nat.le_of_ble_eq_true rfl) dX9_keep_27 (fun r1 m2 => ?_)
  exact g_iret C Rr dX9_keep_30
set_option maxHeartbeats 2000000 in
theorem s_X9_keep_J112 {K : KT}  (C : Cx K cX9_keep RX9 8 10) (Rr : Rx K (some .int))  {k40 : Nat → Int32 → Int32 → Int32 → Int32 → Int32 → Int32 → Mem → Res} (hk40 : ∀ (a0 : Nat) (x1 : Int32) (x2 : Int32) (x3 : Int32) (x4 : Int32) (x5 : Int32) (x6 : Int32) (h0 : tg a0 = 9) (m0 : Mem), G K 40 [(0, .ref (kf K a0)), (1, .int x1), (2, .int x2), (3, .int x3), (4, .int x4), (5, .int x5), (6, .int x6)] [] m0 (k40 a0 x1 x2 x3 x4 x5 x6 m0)) (a0 : Nat) (x1 : Int32) (x2 : Int32) (x3 : Int32) (x4 : Int32) (x5 : Int32) (x6 : Int32) (h0 : tg a0 = 9) (m0 : Mem) : G K 112 [(0, .ref (kf K a0)), (1, .int x1), (2, .int x2), (3, .int x3), (4, .int x4), (5, .int x5), (6, .int x6)] [] m0 (X9_keep_J112 k40 a0 x1 x2 x3 x4 x5 x6 m0) := by
  unfold X9_keep_J112
  refine g_iinc (k := 6) C dX9_keep_112 rfl (w := (1 : Int32)) rfl (by decide) (fun v_ => [(6, .int v_), (0, .ref (kf K a0)), (1, .int x1), (2, .int x2), (3, .int x3), (4, .int x4), (5, .int x5)]) (fun _ => rfl) (fun y1 => ?_)
  refine g_goto C 40 dX9_keep_115 (by decide) ?_
  refine g_sub [1, 2, 3, 4, 5, 6, 0] rfl ?_
  exact hk40 a0 x1 x2 x3 x4 x5 y1 h0 m0
set_option maxHeartbeats 2000000 in
theorem s_X9_keep_J104 {K : KT}  (C : Cx K cX9_keep RX9 8 10) (Rr : Rx K (some .int))  {k40 : Nat → Int32 → Int32 → Int32 → Int32 → Int32 → Int32 → Mem → Res} (hk40 : ∀ (a0 : Nat) (x1 : Int32) (x2 : Int32) (x3 : Int32) (x4 : Int32) (x5 : Int32) (x6 : Int32) (h0 : tg a0 = 9) (m0 : Mem), G K 40 [(0, .ref (kf K a0)), (1, .int x1), (2, .int x2), (3, .int x3), (4, .int x4), (5, .int x5), (6, .int x6)] [] m0 (k40 a0 x1 x2 x3 x4 x5 x6 m0)) (a0 : Nat) (x1 : Int32) (x2 : Int32) (x3 : Int32) (x6 : Int32) (x7 : Int32) (h0 : tg a0 = 9) (m0 : Mem) : G K 104 [(0, .ref (kf K a0)), (1, .int x1), (2, .int x2), (3, .int x3), (6, .int x6), (7, .int x7)] [] m0 (X9_keep_J104 k40 a0 x1 x2 x3 x6 x7 m0) := by
  unfold X9_keep_J104
  refine g_iload C dX9_keep_104 4 rfl ?_
  refine g_istore C dX9_keep_106 (by decide) rfl ?_
  refine g_iload C dX9_keep_108 6 rfl ?_
  refine g_istore C dX9_keep_110 (by decide) rfl ?_
  refine g_sub [2, 3, 4, 5, 1, 0, 6] rfl ?_
  exact s_X9_keep_J112 C Rr hk40 a0 x1 x2 x3 x6 x7 x6 h0 m0
set_option maxHeartbeats 2000000 in
theorem s_X9_keep_L40B {K : KT}  (C : Cx K cX9_keep RX9 8 10) (Rr : Rx K (some .int))  {k40 : Nat → Int32 → Int32 → Int32 → Int32 → Int32 → Int32 → Mem → Res} (hk40 : ∀ (a0 : Nat) (x1 : Int32) (x2 : Int32) (x3 : Int32) (x4 : Int32) (x5 : Int32) (x6 : Int32) (h0 : tg a0 = 9) (m0 : Mem), G K 40 [(0, .ref (kf K a0)), (1, .int x1), (2, .int x2), (3, .int x3), (4, .int x4), (5, .int x5), (6, .int x6)] [] m0 (k40 a0 x1 x2 x3 x4 x5 x6 m0)) (a0 : Nat) (x1 : Int32) (x2 : Int32) (x3 : Int32) (x4 : Int32) (x5 : Int32) (x6 : Int32) (h0 : tg a0 = 9) (m0 : Mem) : G K 40 [(0, .ref (kf K a0)), (1, .int x1), (2, .int x2), (3, .int x3), (4, .int x4), (5, .int x5), (6, .int x6)] [] m0 (X9_keep_L40B k40 a0 x1 x2 x3 x4 x5 x6 m0) := by
  unfold X9_keep_L40B
  refine g_iload C dX9_keep_40 6 rfl ?_
  refine g_bipush C (10 : Int32) dX9_keep_42 rfl ?_
  refine g_icmp_ge C 118 dX9_keep_44 (by decide) (fun _ => ?_) (fun _ => ?_)
  · refine g_iload C dX9_keep_118 4 rfl ?_
    exact g_iret C Rr dX9_keep_120
  · refine g_aload_n C dX9_keep_47 0 rfl rfl ?_
    refine g_getr C 0 1 Fx9 h0 (by decide) rfl rfl q_919 dX9_keep_48 ?_
    refine g_aload_n C dX9_keep_51 0 rfl rfl ?_
    refine g_getr C 2 3 Fx9 h0 (by decide) rfl rfl q_921 dX9_keep_52 ?_
    refine g_callSv C cv_X9_carry q_1243 (ct_X9_carry (a0 + 1) 516 (a0 + 3) 516 (cl_9_0 h0) (cl_9_2 h0) m0) q_1242 (by decide) rfl rfl (Nat.le_of_ble_eq_true rfl) dX9_keep_55 (fun r1 m2 => ?_)
    refine g_aload_n C dX9_keep_58 0 rfl rfl ?_
    refine g_iload_n C dX9_keep_59 1 rfl rfl ?_
    refine g_iconst C (3 : Int32) dX9_keep_60 rfl ?_
    refine g_iload_n C dX9_keep_61 2 rfl rfl ?_
    refine g_iadd C dX9_keep_62 ?_
    refine g_iload C dX9_keep_63 6 rfl ?_
    refine g_callVv C cv_X9_lays1 (ct_X9_lays1 a0 x1 ((3 : Int32) + x2) x6 h0 m2) q_1003 h0 (by decide) rfl rfl (Nat.le_of_ble_eq_true rfl) dX9_keep_65 (fun r3 m4 => ?_)
    refine g_aload_n C dX9_keep_68 0 rfl rfl ?_
    refine g_iload_n C dX9_keep_69 3 rfl rfl ?_
    refine g_callVv C cv_X9_go (ct_X9_go a0 x3 h0 m4) q_1214 h0 (by decide) rfl rfl (Nat.le_of_ble_eq_true rfl) dX9_keep_70 (fun r5 m6 => ?_)
    refine g_aload_n C dX9_keep_73 0 rfl rfl ?_
    refine g_iload_n C dX9_keep_74 1 rfl rfl ?_
    refine g_iconst C (2 : Int32) dX9_keep_75 rfl ?_
    refine g_callVi C cv_X9_its (ct_X9_its a0 x1 (2 : Int32) h0 m6) q_1031 h0 (by decide) rfl rfl (Nat.le_of_ble_eq_true rfl) dX9_keep_76 (fun r7 m8 => ?_)
    refine g_istore C dX9_keep_79 (by decide) rfl ?_
    refine g_aload_n C dX9_keep_81 1 rfl rfl ?_
    refine g_getr C 2 3 Fx9 h0 (by decide) rfl rfl q_921 dX9_keep_82 ?_
    refine g_aload_n C dX9_keep_85 1 rfl rfl ?_
    refine g_getr C 0 1 Fx9 h0 (by decide) rfl rfl q_919 dX9_keep_86 ?_
    refine g_callSv C cv_X9_carry q_1243 (ct_X9_carry (a0 + 3) 516 (a0 + 1) 516 (cl_9_2 h0) (cl_9_0 h0) m8) q_1242 (by decide) rfl rfl (Nat.le_of_ble_eq_true rfl) dX9_keep_89 (fun r9 m10 => ?_)
    refine g_iload C dX9_keep_92 7 rfl ?_
    refine g_if_eq C 104 dX9_keep_94 (by decide) (fun _ => ?_) (fun _ => ?_)
    · refine g_sub [1, 2, 3, 4, 7, 0] rfl ?_
      exact s_X9_keep_J104 C Rr hk40 a0 x1 x2 x3 x6 r7 h0 m10
    · refine g_iload C dX9_keep_97 0 rfl ?_
      refine g_iload C dX9_keep_99 6 rfl ?_
      refine g_icmp_le C 112 dX9_keep_101 (by decide) (fun _ => ?_) (fun _ => ?_)
      · refine g_sub [1, 2, 3, 4, 5, 6, 7] rfl ?_
        exact s_X9_keep_J112 C Rr hk40 a0 x1 x2 x3 x4 x5 x6 h0 m10
      · refine g_sub [1, 2, 3, 4, 7, 0] rfl ?_
        exact s_X9_keep_J104 C Rr hk40 a0 x1 x2 x3 x6 r7 h0 m10
theorem s_X9_keep_L40 {K : KT}  (C : Cx K cX9_keep RX9 8 10) (Rr : Rx K (some .int))    : ∀ (n : Nat) (a0 : Nat) (x1 : Int32) (x2 : Int32) (x3 : Int32) (x4 : Int32) (x5 : Int32) (x6 : Int32) (h0 : tg a0 = 9) (m0 : Mem), G K 40 [(0, .ref (kf K a0)), (1, .int x1), (2, .int x2), (3, .int x3), (4, .int x4), (5, .int x5), (6, .int x6)] [] m0 (X9_keep_L40 n a0 x1 x2 x3 x4 x5 x6 m0) := by
  intro n
  induction n with
  | zero => intros; exact g_none
  | succ n ih =>
    intro a0 x1 x2 x3 x4 x5 x6 h0 m0
    exact s_X9_keep_L40B C Rr  ih a0 x1 x2 x3 x4 x5 x6 h0 m0
set_option maxHeartbeats 2000000 in
theorem s_X9_keep {K : KT}  (C : Cx K cX9_keep RX9 8 10) (Rr : Rx K (some .int))  (a0 : Nat) (x1 : Int32) (x2 : Int32) (x3 : Int32) (h0 : tg a0 = 9) (m0 : Mem) : G K 0 [(0, .ref (kf K a0)), (1, .int x1), (2, .int x2), (3, .int x3)] [] m0 (f_X9_keep a0 x1 x2 x3 m0) := by
  unfold f_X9_keep
  refine g_aload_n C dX9_keep_0 0 rfl rfl ?_
  refine g_iload_n C dX9_keep_1 1 rfl rfl ?_
  refine g_callVi C cv_X9_isShop (ct_X9_isShop a0 x1 h0 m0) q_1011 h0 (by decide) rfl rfl (Nat.le_of_ble_eq_true rfl) dX9_keep_2 (fun r1 m2 => ?_)
  refine g_if_eq C 25 dX9_keep_5 (by decide) (fun _ => ?_) (fun _ => ?_)
  · refine g_sub [0] rfl ?_
    exact s_X9_keep_J25 C Rr a0 h0 m2
  · refine g_iload_n C dX9_keep_8 2 rfl rfl ?_
    refine g_callSi C cv_X9_isGood q_985 (ct_X9_isGood x2  m2) q_984 (by decide) rfl rfl (Nat.le_of_ble_eq_true rfl) dX9_keep_9 (fun r3 m4 => ?_)
    refine g_if_eq C 25 dX9_keep_12 (by decide) (fun _ => ?_) (fun _ => ?_)
    · refine g_sub [0] rfl ?_
      exact s_X9_keep_J25 C Rr a0 h0 m4
    · refine g_iload_n C dX9_keep_15 3 rfl rfl ?_
      refine g_iconst C (1 : Int32) dX9_keep_16 rfl ?_
      refine g_bipush C (20 : Int32) dX9_keep_17 rfl ?_
      refine g_callSi C cv_X9_in q_988 (ct_X9_in x3 (1 : Int32) (20 : Int32)  m4) q_987 (by decide) rfl rfl (Nat.le_of_ble_eq_true rfl) dX9_keep_19 (fun r5 m6 => ?_)
      refine g_if_ne C 31 dX9_keep_22 (by decide) (fun _ => ?_) (fun _ => ?_)
      · refine g_iconst C (0 : Int32) dX9_keep_31 rfl ?_
        refine g_istore C dX9_keep_32 (by decide) rfl ?_
        refine g_iconst C (0 : Int32) dX9_keep_34 rfl ?_
        refine g_istore C dX9_keep_35 (by decide) rfl ?_
        refine g_iconst C (0 : Int32) dX9_keep_37 rfl ?_
        refine g_istore C dX9_keep_38 (by decide) rfl ?_
        refine g_sub [3, 4, 5, 6, 2, 1, 0] rfl ?_
        exact s_X9_keep_L40 C Rr FU a0 x1 x2 x3 (0 : Int32) (0 : Int32) (0 : Int32) h0 m6
      · refine g_sub [0] rfl ?_
        exact s_X9_keep_J25 C Rr a0 h0 m6
theorem ct_X9_keep {Ω : OT} (a0 : Nat) (x1 : Int32) (x2 : Int32) (x3 : Int32) (h0 : tg a0 = 9) (m0 : Mem) : Ct Ω yX9_keep cX9_keep 8 (some .int) 10 [.ref (oF Ω a0), .int x1, .int x2, .int x3] m0 (f_X9_keep a0 x1 x2 x3 m0) := by
  refine Ct_of (by decide) (Nat.le_of_ble_eq_true rfl) ?_
  intro K hK C Rr
  subst hK
  exact s_X9_keep C Rr  a0 x1 x2 x3 h0 m0
def X9_purseBy_J50  (k14 : Nat → Int32 → Int32 → Int32 → Int32 → Mem → Res) (a0 : Nat) (x1 : Int32) (x2 : Int32) (x3 : Int32) (x4 : Int32) (as0 : Nat) (xs1 : Int32) (xs2 : Int32) (xs3 : Int32) (m0 : Mem) : Res :=
  cal (f_X9_lays1 as0 xs1 xs2 xs3 m0) (fun r1 m2 =>
  bnd (x4 + (1 : Int32)) (fun y3 =>
  k14 a0 x1 x2 x3 y3 m2))
def X9_purseBy_L14B  (k14 : Nat → Int32 → Int32 → Int32 → Int32 → Mem → Res) (a0 : Nat) (x1 : Int32) (x2 : Int32) (x3 : Int32) (x4 : Int32) (m0 : Mem) : Res :=
  (if (6 : Int32) ≤ x4 then
  cal (f_X9_go a0 x3 m0) (fun r1 m2 =>
  cal (f_X9_its a0 x1 (2 : Int32) m2) (fun r3 m4 =>
  cal (f_X9_carry (a0 + 3) 516 (a0 + 1) 516 m4) (fun r5 m6 =>
  some (r3, m6))))
  else
  (if ((isr x2 x4) &&& (1 : Int32)) = (1 : Int32) then
  cal (f_X9_its a0 x1 ((3 : Int32) + x4) m0) (fun r7 m8 =>
  X9_purseBy_J50 k14 a0 x1 x2 x3 x4 a0 x1 ((3 : Int32) + x4) r7 m8)
  else
  X9_purseBy_J50 k14 a0 x1 x2 x3 x4 a0 x1 ((3 : Int32) + x4) (0 : Int32) m0))
def X9_purseBy_L14   : Nat → Nat → Int32 → Int32 → Int32 → Int32 → Mem → Res
  | 0 => fun _ _ _ _ _ _ => none
  | n + 1 => X9_purseBy_L14B (X9_purseBy_L14 n)
def f_X9_purseBy  (a0 : Nat) (x1 : Int32) (x2 : Int32) (x3 : Int32) (m0 : Mem) : Res :=
  cal (f_X9_carry (a0 + 1) 516 (a0 + 3) 516 m0) (fun r1 m2 =>
  X9_purseBy_L14 FU a0 x1 x2 x3 (0 : Int32) m2)
set_option maxHeartbeats 2000000 in
theorem s_X9_purseBy_J50 {K : KT}  (C : Cx K cX9_purseBy RX9 5 10) (Rr : Rx K (some .int))  {k14 : Nat → Int32 → Int32 → Int32 → Int32 → Mem → Res} (hk14 : ∀ (a0 : Nat) (x1 : Int32) (x2 : Int32) (x3 : Int32) (x4 : Int32) (h0 : tg a0 = 9) (m0 : Mem), G K 14 [(0, .ref (kf K a0)), (1, .int x1), (2, .int x2), (3, .int x3), (4, .int x4)] [] m0 (k14 a0 x1 x2 x3 x4 m0)) (a0 : Nat) (x1 : Int32) (x2 : Int32) (x3 : Int32) (x4 : Int32) (as0 : Nat) (xs1 : Int32) (xs2 : Int32) (xs3 : Int32) (h0 : tg a0 = 9) (hs0 : tg as0 = 9) (m0 : Mem) : G K 50 [(0, .ref (kf K a0)), (1, .int x1), (2, .int x2), (3, .int x3), (4, .int x4)] [.int xs3, .int xs2, .int xs1, .ref (kf K as0)] m0 (X9_purseBy_J50 k14 a0 x1 x2 x3 x4 as0 xs1 xs2 xs3 m0) := by
  unfold X9_purseBy_J50
  refine g_callVv C cv_X9_lays1 (ct_X9_lays1 as0 xs1 xs2 xs3 hs0 m0) q_1003 hs0 (by decide) rfl rfl (Nat.le_of_ble_eq_true rfl) dX9_purseBy_50 (fun r1 m2 => ?_)
  refine g_iinc (k := 4) C dX9_purseBy_53 rfl (w := (1 : Int32)) rfl (by decide) (fun v_ => [(4, .int v_), (0, .ref (kf K a0)), (1, .int x1), (2, .int x2), (3, .int x3)]) (fun _ => rfl) (fun y3 => ?_)
  refine g_goto C 14 dX9_purseBy_56 (by decide) ?_
  refine g_sub [1, 2, 3, 4, 0] rfl ?_
  exact hk14 a0 x1 x2 x3 y3 h0 m2
set_option maxHeartbeats 2000000 in
theorem s_X9_purseBy_L14B {K : KT}  (C : Cx K cX9_purseBy RX9 5 10) (Rr : Rx K (some .int))  {k14 : Nat → Int32 → Int32 → Int32 → Int32 → Mem → Res} (hk14 : ∀ (a0 : Nat) (x1 : Int32) (x2 : Int32) (x3 : Int32) (x4 : Int32) (h0 : tg a0 = 9) (m0 : Mem), G K 14 [(0, .ref (kf K a0)), (1, .int x1), (2, .int x2), (3, .int x3), (4, .int x4)] [] m0 (k14 a0 x1 x2 x3 x4 m0)) (a0 : Nat) (x1 : Int32) (x2 : Int32) (x3 : Int32) (x4 : Int32) (h0 : tg a0 = 9) (m0 : Mem) : G K 14 [(0, .ref (kf K a0)), (1, .int x1), (2, .int x2), (3, .int x3), (4, .int x4)] [] m0 (X9_purseBy_L14B k14 a0 x1 x2 x3 x4 m0) := by
  unfold X9_purseBy_L14B
  refine g_iload C dX9_purseBy_14 4 rfl ?_
  refine g_bipush C (6 : Int32) dX9_purseBy_16 rfl ?_
  refine g_icmp_ge C 59 dX9_purseBy_18 (by decide) (fun _ => ?_) (fun _ => ?_)
  · refine g_aload_n C dX9_purseBy_59 0 rfl rfl ?_
    refine g_iload_n C dX9_purseBy_60 3 rfl rfl ?_
    refine g_callVv C cv_X9_go (ct_X9_go a0 x3 h0 m0) q_1214 h0 (by decide) rfl rfl (Nat.le_of_ble_eq_true rfl) dX9_purseBy_61 (fun r1 m2 => ?_)
    refine g_aload_n C dX9_purseBy_64 0 rfl rfl ?_
    refine g_iload_n C dX9_purseBy_65 1 rfl rfl ?_
    refine g_iconst C (2 : Int32) dX9_purseBy_66 rfl ?_
    refine g_callVi C cv_X9_its (ct_X9_its a0 x1 (2 : Int32) h0 m2) q_1031 h0 (by decide) rfl rfl (Nat.le_of_ble_eq_true rfl) dX9_purseBy_67 (fun r3 m4 => ?_)
    refine g_istore C dX9_purseBy_70 (by decide) rfl ?_
    refine g_aload_n C dX9_purseBy_72 1 rfl rfl ?_
    refine g_getr C 2 3 Fx9 h0 (by decide) rfl rfl q_921 dX9_purseBy_73 ?_
    refine g_aload_n C dX9_purseBy_76 1 rfl rfl ?_
    refine g_getr C 0 1 Fx9 h0 (by decide) rfl rfl q_919 dX9_purseBy_77 ?_
    refine g_callSv C cv_X9_carry q_1243 (ct_X9_carry (a0 + 3) 516 (a0 + 1) 516 (cl_9_2 h0) (cl_9_0 h0) m4) q_1242 (by decide) rfl rfl (Nat.le_of_ble_eq_true rfl) dX9_purseBy_80 (fun r5 m6 => ?_)
    refine g_iload C dX9_purseBy_83 0 rfl ?_
    exact g_iret C Rr dX9_purseBy_85
  · refine g_aload_n C dX9_purseBy_21 0 rfl rfl ?_
    refine g_iload_n C dX9_purseBy_22 1 rfl rfl ?_
    refine g_iconst C (3 : Int32) dX9_purseBy_23 rfl ?_
    refine g_iload C dX9_purseBy_24 4 rfl ?_
    refine g_iadd C dX9_purseBy_26 ?_
    refine g_iload_n C dX9_purseBy_27 2 rfl rfl ?_
    refine g_iload C dX9_purseBy_28 4 rfl ?_
    refine g_ishr C dX9_purseBy_30 ?_
    refine g_iconst C (1 : Int32) dX9_purseBy_31 rfl ?_
    refine g_iand C dX9_purseBy_32 ?_
    refine g_iconst C (1 : Int32) dX9_purseBy_33 rfl ?_
    refine g_icmp_ne C 49 dX9_purseBy_34 (by decide) (fun _ => ?_) (fun _ => ?_)
    · refine g_iconst C (0 : Int32) dX9_purseBy_49 rfl ?_
      refine g_sub [0, 1, 2, 3, 4] rfl ?_
      exact s_X9_purseBy_J50 C Rr hk14 a0 x1 x2 x3 x4 a0 x1 ((3 : Int32) + x4) (0 : Int32) h0 h0 m0
    · refine g_aload_n C dX9_purseBy_37 0 rfl rfl ?_
      refine g_iload_n C dX9_purseBy_38 1 rfl rfl ?_
      refine g_iconst C (3 : Int32) dX9_purseBy_39 rfl ?_
      refine g_iload C dX9_purseBy_40 4 rfl ?_
      refine g_iadd C dX9_purseBy_42 ?_
      refine g_callVi C cv_X9_its (ct_X9_its a0 x1 ((3 : Int32) + x4) h0 m0) q_1031 h0 (by decide) rfl rfl (Nat.le_of_ble_eq_true rfl) dX9_purseBy_43 (fun r7 m8 => ?_)
      refine g_goto C 50 dX9_purseBy_46 (by decide) ?_
      refine g_sub [0, 1, 2, 3, 4] rfl ?_
      exact s_X9_purseBy_J50 C Rr hk14 a0 x1 x2 x3 x4 a0 x1 ((3 : Int32) + x4) r7 h0 h0 m8
theorem s_X9_purseBy_L14 {K : KT}  (C : Cx K cX9_purseBy RX9 5 10) (Rr : Rx K (some .int))    : ∀ (n : Nat) (a0 : Nat) (x1 : Int32) (x2 : Int32) (x3 : Int32) (x4 : Int32) (h0 : tg a0 = 9) (m0 : Mem), G K 14 [(0, .ref (kf K a0)), (1, .int x1), (2, .int x2), (3, .int x3), (4, .int x4)] [] m0 (X9_purseBy_L14 n a0 x1 x2 x3 x4 m0) := by
  intro n
  induction n with
  | zero => intros; exact g_none
  | succ n ih =>
    intro a0 x1 x2 x3 x4 h0 m0
    exact s_X9_purseBy_L14B C Rr  ih a0 x1 x2 x3 x4 h0 m0
set_option maxHeartbeats 2000000 in
theorem s_X9_purseBy {K : KT}  (C : Cx K cX9_purseBy RX9 5 10) (Rr : Rx K (some .int))  (a0 : Nat) (x1 : Int32) (x2 : Int32) (x3 : Int32) (h0 : tg a0 = 9) (m0 : Mem) : G K 0 [(0, .ref (kf K a0)), (1, .int x1), (2, .int x2), (3, .int x3)] [] m0 (f_X9_purseBy a0 x1 x2 x3 m0) := by
  unfold f_X9_purseBy
  refine g_aload_n C dX9_purseBy_0 0 rfl rfl ?_
  refine g_getr C 0 1 Fx9 h0 (by decide) rfl rfl q_919 dX9_purseBy_1 ?_
  refine g_aload_n C dX9_purseBy_4 0 rfl rfl ?_
  refine g_getr C 2 3 Fx9 h0 (by decide) rfl rfl q_921 dX9_purseBy_5 ?_
  refine g_callSv C cv_X9_carry q_1243 (ct_X9_carry (a0 + 1) 516 (a0 + 3) 516 (cl_9_0 h0) (cl_9_2 h0) m0) q_1242 (by decide) rfl rfl (Nat.le_of_ble_eq_true rfl) dX9_purseBy_8 (fun r1 m2 => ?_)
  refine g_iconst C (0 : Int32) dX9_purseBy_11 rfl ?_
  refine g_istore C dX9_purseBy_12 (by decide) rfl ?_
  refine g_sub [1, 2, 3, 4, 0] rfl ?_
  exact s_X9_purseBy_L14 C Rr FU a0 x1 x2 x3 (0 : Int32) h0 m2
theorem ct_X9_purseBy {Ω : OT} (a0 : Nat) (x1 : Int32) (x2 : Int32) (x3 : Int32) (h0 : tg a0 = 9) (m0 : Mem) : Ct Ω yX9_purseBy cX9_purseBy 5 (some .int) 10 [.ref (oF Ω a0), .int x1, .int x2, .int x3] m0 (f_X9_purseBy a0 x1 x2 x3 m0) := by
  refine Ct_of (by decide) (Nat.le_of_ble_eq_true rfl) ?_
  intro K hK C Rr
  subst hK
  exact s_X9_purseBy C Rr  a0 x1 x2 x3 h0 m0
def X9_range_J17   (a0 : Nat) (m0 : Mem) : Res :=
  cal (f_X9_error a0 (1 : Int32) m0) (fun r1 m2 =>
  some (r1, m2))
def X9_range_J87  (k37 : Nat → Int32 → Int32 → Int32 → Int32 → Int32 → Mem → Res) (a0 : Nat) (x1 : Int32) (x2 : Int32) (x3 : Int32) (x4 : Int32) (x5 : Int32) (m0 : Mem) : Res :=
  bnd (x5 + (1 : Int32)) (fun y1 =>
  k37 a0 x1 x2 x3 x4 y1 m0)
def X9_range_J80  (k37 : Nat → Int32 → Int32 → Int32 → Int32 → Int32 → Mem → Res) (a0 : Nat) (x1 : Int32) (x2 : Int32) (x5 : Int32) (x6 : Int32) (m0 : Mem) : Res :=
  X9_range_J87 k37 a0 x1 x2 x5 x6 x5 m0
def X9_range_L37B  (k37 : Nat → Int32 → Int32 → Int32 → Int32 → Int32 → Mem → Res) (a0 : Nat) (x1 : Int32) (x2 : Int32) (x3 : Int32) (x4 : Int32) (x5 : Int32) (m0 : Mem) : Res :=
  (if (64 : Int32) ≤ x5 then
  some (x3, m0)
  else
  cal (f_X9_purseBy a0 x1 x5 x2 m0) (fun r1 m2 =>
  (if x4 < r1 then
  X9_range_J80 k37 a0 x1 x2 x5 r1 m2
  else
  (if r1 = x4 then
  cal (f_X9_bitsOf x5 m2) (fun r3 m4 =>
  cal (f_X9_bitsOf x3 m4) (fun r5 m6 =>
  (if r5 ≤ r3 then
  X9_range_J87 k37 a0 x1 x2 x3 x4 x5 m6
  else
  X9_range_J80 k37 a0 x1 x2 x5 r1 m6)))
  else
  X9_range_J87 k37 a0 x1 x2 x3 x4 x5 m2))))
def X9_range_L37   : Nat → Nat → Int32 → Int32 → Int32 → Int32 → Int32 → Mem → Res
  | 0 => fun _ _ _ _ _ _ _ => none
  | n + 1 => X9_range_L37B (X9_range_L37 n)
def f_X9_range  (a0 : Nat) (x1 : Int32) (x2 : Int32) (m0 : Mem) : Res :=
  cal (f_X9_isShop a0 x1 m0) (fun r1 m2 =>
  (if r1 = 0 then
  X9_range_J17 a0 m2
  else
  cal (f_X9_in x2 (1 : Int32) (5 : Int32) m2) (fun r3 m4 =>
  (if r3 = 0 then
  X9_range_J17 a0 m4
  else
  cal (f_X9_purseBy a0 x1 (0 : Int32) x2 m4) (fun r5 m6 =>
  X9_range_L37 FU a0 x1 x2 (0 : Int32) r5 (1 : Int32) m6)))))
set_option maxHeartbeats 2000000 in
theorem s_X9_range_J17 {K : KT}  (C : Cx K cX9_range RX9 7 11) (Rr : Rx K (some .int))    (a0 : Nat) (h0 : tg a0 = 9) (m0 : Mem) : G K 17 [(0, .ref (kf K a0))] [] m0 (X9_range_J17 a0 m0) := by
  unfold X9_range_J17
  refine g_aload_n C dX9_range_17 0 rfl rfl ?_
  refine g_iconst C (1 : Int32) dX9_range_18 rfl ?_
  refine g_callVi C cv_X9_error (ct_X9_error a0 (1 : Int32) h0 m0) q_990 h0 (by decide) rfl rfl (Nat.le_of_ble_eq_true rfl) dX9_range_19 (fun r1 m2 => ?_)
  exact g_iret C Rr dX9_range_22
set_option maxHeartbeats 2000000 in
theorem s_X9_range_J87 {K : KT}  (C : Cx K cX9_range RX9 7 11) (Rr : Rx K (some .int))  {k37 : Nat → Int32 → Int32 → Int32 → Int32 → Int32 → Mem → Res} (hk37 : ∀ (a0 : Nat) (x1 : Int32) (x2 : Int32) (x3 : Int32) (x4 : Int32) (x5 : Int32) (h0 : tg a0 = 9) (m0 : Mem), G K 37 [(0, .ref (kf K a0)), (1, .int x1), (2, .int x2), (3, .int x3), (4, .int x4), (5, .int x5)] [] m0 (k37 a0 x1 x2 x3 x4 x5 m0)) (a0 : Nat) (x1 : Int32) (x2 : Int32) (x3 : Int32) (x4 : Int32) (x5 : Int32) (h0 : tg a0 = 9) (m0 : Mem) : G K 87 [(0, .ref (kf K a0)), (1, .int x1), (2, .int x2), (3, .int x3), (4, .int x4), (5, .int x5)] [] m0 (X9_range_J87 k37 a0 x1 x2 x3 x4 x5 m0) := by
  unfold X9_range_J87
  refine g_iinc (k := 5) C dX9_range_87 rfl (w := (1 : Int32)) rfl (by decide) (fun v_ => [(5, .int v_), (0, .ref (kf K a0)), (1, .int x1), (2, .int x2), (3, .int x3), (4, .int x4)]) (fun _ => rfl) (fun y1 => ?_)
  refine g_goto C 37 dX9_range_90 (by decide) ?_
  refine g_sub [1, 2, 3, 4, 5, 0] rfl ?_
  exact hk37 a0 x1 x2 x3 x4 y1 h0 m0
set_option maxHeartbeats 2000000 in
theorem s_X9_range_J80 {K : KT}  (C : Cx K cX9_range RX9 7 11) (Rr : Rx K (some .int))  {k37 : Nat → Int32 → Int32 → Int32 → Int32 → Int32 → Mem → Res} (hk37 : ∀ (a0 : Nat) (x1 : Int32) (x2 : Int32) (x3 : Int32) (x4 : Int32) (x5 : Int32) (h0 : tg a0 = 9) (m0 : Mem), G K 37 [(0, .ref (kf K a0)), (1, .int x1), (2, .int x2), (3, .int x3), (4, .int x4), (5, .int x5)] [] m0 (k37 a0 x1 x2 x3 x4 x5 m0)) (a0 : Nat) (x1 : Int32) (x2 : Int32) (x5 : Int32) (x6 : Int32) (h0 : tg a0 = 9) (m0 : Mem) : G K 80 [(0, .ref (kf K a0)), (1, .int x1), (2, .int x2), (5, .int x5), (6, .int x6)] [] m0 (X9_range_J80 k37 a0 x1 x2 x5 x6 m0) := by
  unfold X9_range_J80
  refine g_iload C dX9_range_80 3 rfl ?_
  refine g_istore_n C dX9_range_82 rfl (by decide) rfl ?_
  refine g_iload C dX9_range_83 5 rfl ?_
  refine g_istore C dX9_range_85 (by decide) rfl ?_
  refine g_sub [2, 3, 4, 1, 0, 5] rfl ?_
  exact s_X9_range_J87 C Rr hk37 a0 x1 x2 x5 x6 x5 h0 m0
set_option maxHeartbeats 2000000 in
theorem s_X9_range_L37B {K : KT}  (C : Cx K cX9_range RX9 7 11) (Rr : Rx K (some .int))  {k37 : Nat → Int32 → Int32 → Int32 → Int32 → Int32 → Mem → Res} (hk37 : ∀ (a0 : Nat) (x1 : Int32) (x2 : Int32) (x3 : Int32) (x4 : Int32) (x5 : Int32) (h0 : tg a0 = 9) (m0 : Mem), G K 37 [(0, .ref (kf K a0)), (1, .int x1), (2, .int x2), (3, .int x3), (4, .int x4), (5, .int x5)] [] m0 (k37 a0 x1 x2 x3 x4 x5 m0)) (a0 : Nat) (x1 : Int32) (x2 : Int32) (x3 : Int32) (x4 : Int32) (x5 : Int32) (h0 : tg a0 = 9) (m0 : Mem) : G K 37 [(0, .ref (kf K a0)), (1, .int x1), (2, .int x2), (3, .int x3), (4, .int x4), (5, .int x5)] [] m0 (X9_range_L37B k37 a0 x1 x2 x3 x4 x5 m0) := by
  unfold X9_range_L37B
  refine g_iload C dX9_range_37 5 rfl ?_
  refine g_bipush C (64 : Int32) dX9_range_39 rfl ?_
  refine g_icmp_ge C 93 dX9_range_41 (by decide) (fun _ => ?_) (fun _ => ?_)
  · refine g_iload_n C dX9_range_93 3 rfl rfl ?_
    exact g_iret C Rr dX9_range_94
  · refine g_aload_n C dX9_range_44 0 rfl rfl ?_
    refine g_iload_n C dX9_range_45 1 rfl rfl ?_
    refine g_iload C dX9_range_46 5 rfl ?_
    refine g_iload_n C dX9_range_48 2 rfl rfl ?_
    refine g_callVi C cv_X9_purseBy (ct_X9_purseBy a0 x1 x5 x2 h0 m0) q_1253 h0 (by decide) rfl rfl (Nat.le_of_ble_eq_true rfl) dX9_range_49 (fun r1 m2 => ?_)
    refine g_istore C dX9_range_52 (by decide) rfl ?_
    refine g_iload C dX9_range_54 0 rfl ?_
    refine g_iload C dX9_range_56 5 rfl ?_
    refine g_icmp_gt C 80 dX9_range_58 (by decide) (fun _ => ?_) (fun _ => ?_)
    · refine g_sub [1, 2, 3, 6, 0] rfl ?_
      exact s_X9_range_J80 C Rr hk37 a0 x1 x2 x5 r1 h0 m2
    · refine g_iload C dX9_range_61 0 rfl ?_
      refine g_iload C dX9_range_63 5 rfl ?_
      refine g_icmp_ne C 87 dX9_range_65 (by decide) (fun _ => ?_) (fun _ => ?_)
      · refine g_sub [1, 2, 3, 4, 5, 6] rfl ?_
        exact s_X9_range_J87 C Rr hk37 a0 x1 x2 x3 x4 x5 h0 m2
      · refine g_iload C dX9_range_68 6 rfl ?_
        refine g_callSi C cv_X9_bitsOf q_1228 (ct_X9_bitsOf x5  m2) q_1227 (by decide) rfl rfl (Nat.le_of_ble_eq_true rfl) dX9_range_70 (fun r3 m4 => ?_)
        refine g_iload_n C dX9_range_73 4 rfl rfl ?_
        refine g_callSi C cv_X9_bitsOf q_1228 (ct_X9_bitsOf x3  m4) q_1227 (by decide) rfl rfl (Nat.le_of_ble_eq_true rfl) dX9_range_74 (fun r5 m6 => ?_)
        refine g_icmp_ge C 87 dX9_range_77 (by decide) (fun _ => ?_) (fun _ => ?_)
        · refine g_sub [1, 2, 3, 4, 5, 6] rfl ?_
          exact s_X9_range_J87 C Rr hk37 a0 x1 x2 x3 x4 x5 h0 m6
        · refine g_sub [1, 2, 3, 6, 0] rfl ?_
          exact s_X9_range_J80 C Rr hk37 a0 x1 x2 x5 r1 h0 m6
theorem s_X9_range_L37 {K : KT}  (C : Cx K cX9_range RX9 7 11) (Rr : Rx K (some .int))    : ∀ (n : Nat) (a0 : Nat) (x1 : Int32) (x2 : Int32) (x3 : Int32) (x4 : Int32) (x5 : Int32) (h0 : tg a0 = 9) (m0 : Mem), G K 37 [(0, .ref (kf K a0)), (1, .int x1), (2, .int x2), (3, .int x3), (4, .int x4), (5, .int x5)] [] m0 (X9_range_L37 n a0 x1 x2 x3 x4 x5 m0) := by
  intro n
  induction n with
  | zero => intros; exact g_none
  | succ n ih =>
    intro a0 x1 x2 x3 x4 x5 h0 m0
    exact s_X9_range_L37B C Rr  ih a0 x1 x2 x3 x4 x5 h0 m0
set_option maxHeartbeats 2000000 in
theorem s_X9_range {K : KT}  (C : Cx K cX9_range RX9 7 11) (Rr : Rx K (some .int))  (a0 : Nat) (x1 : Int32) (x2 : Int32) (h0 : tg a0 = 9) (m0 : Mem) : G K 0 [(0, .ref (kf K a0)), (1, .int x1), (2, .int x2)] [] m0 (f_X9_range a0 x1 x2 m0) := by
  unfold f_X9_range
  refine g_aload_n C dX9_range_0 0 rfl rfl ?_
  refine g_iload_n C dX9_range_1 1 rfl rfl ?_
  refine g_callVi C cv_X9_isShop (ct_X9_isShop a0 x1 h0 m0) q_1011 h0 (by decide) rfl rfl (Nat.le_of_ble_eq_true rfl) dX9_range_2 (fun r1 m2 => ?_)
  refine g_if_eq C 17 dX9_range_5 (by decide) (fun _ => ?_) (fun _ => ?_)
  · refine g_sub [0] rfl ?_
    exact s_X9_range_J17 C Rr a0 h0 m2
  · refine g_iload_n C dX9_range_8 2 rfl rfl ?_
    refine g_iconst C (1 : Int32) dX9_range_9 rfl ?_
    refine g_iconst C (5 : Int32) dX9_range_10 rfl ?_
    refine g_callSi C cv_X9_in q_988 (ct_X9_in x2 (1 : Int32) (5 : Int32)  m2) q_987 (by decide) rfl rfl (Nat.le_of_ble_eq_true rfl) dX9_range_11 (fun r3 m4 => ?_)
    refine g_if_ne C 23 dX9_range_14 (by decide) (fun _ => ?_) (fun _ => ?_)
    · refine g_iconst C (0 : Int32) dX9_range_23 rfl ?_
      refine g_istore_n C dX9_range_24 rfl (by decide) rfl ?_
      refine g_aload_n C dX9_range_25 1 rfl rfl ?_
      refine g_iload_n C dX9_range_26 2 rfl rfl ?_
      refine g_iconst C (0 : Int32) dX9_range_27 rfl ?_
      refine g_iload_n C dX9_range_28 3 rfl rfl ?_
      refine g_callVi C cv_X9_purseBy (ct_X9_purseBy a0 x1 (0 : Int32) x2 h0 m4) q_1253 h0 (by decide) rfl rfl (Nat.le_of_ble_eq_true rfl) dX9_range_29 (fun r5 m6 => ?_)
      refine g_istore C dX9_range_32 (by decide) rfl ?_
      refine g_iconst C (1 : Int32) dX9_range_34 rfl ?_
      refine g_istore C dX9_range_35 (by decide) rfl ?_
      refine g_sub [3, 4, 5, 2, 1, 0] rfl ?_
      exact s_X9_range_L37 C Rr FU a0 x1 x2 (0 : Int32) r5 (1 : Int32) h0 m6
    · refine g_sub [0] rfl ?_
      exact s_X9_range_J17 C Rr a0 h0 m4
theorem ct_X9_range {Ω : OT} (a0 : Nat) (x1 : Int32) (x2 : Int32) (h0 : tg a0 = 9) (m0 : Mem) : Ct Ω yX9_range cX9_range 7 (some .int) 11 [.ref (oF Ω a0), .int x1, .int x2] m0 (f_X9_range a0 x1 x2 m0) := by
  refine Ct_of (by decide) (Nat.le_of_ble_eq_true rfl) ?_
  intro K hK C Rr
  subst hK
  exact s_X9_range C Rr  a0 x1 x2 h0 m0
def X9_turns_L26B  (k2 : Nat → Int32 → Int32 → Mem → Res) (k26 : Nat → Int32 → Int32 → Int32 → Int32 → Mem → Res) (a0 : Nat) (x1 : Int32) (x2 : Int32) (x3 : Int32) (x4 : Int32) (m0 : Mem) : Res :=
  (if (21 : Int32) ≤ x4 then
  bnd (x2 + (1 : Int32)) (fun y1 =>
  k2 a0 x1 y1 m0)
  else
  gd (inb (((16 : Int32) + ((21 : Int32) * x2)) + x4) 516) (
  gd (inb (((16 : Int32) + ((21 : Int32) * x3)) + x4) 516) (bnd (mset m0 (a0 + 1) (((16 : Int32) + ((21 : Int32) * x3)) + x4).toNatClampNeg (m0 (a0 + 3) (((16 : Int32) + ((21 : Int32) * x2)) + x4).toNatClampNeg)) (fun m2 =>
  bnd (x4 + (1 : Int32)) (fun y3 =>
  k26 a0 x1 x2 x3 y3 m2)))))
def X9_turns_L26  (k2 : Nat → Int32 → Int32 → Mem → Res) : Nat → Nat → Int32 → Int32 → Int32 → Int32 → Mem → Res
  | 0 => fun _ _ _ _ _ _ => none
  | n + 1 => X9_turns_L26B k2 (X9_turns_L26 k2 n)
def X9_turns_L2B  (k2 : Nat → Int32 → Int32 → Mem → Res) (a0 : Nat) (x1 : Int32) (x2 : Int32) (m0 : Mem) : Res :=
  gd (inb (0 : Int32) 516) (
  (if (m0 (a0 + 1) (0 : Int32).toNatClampNeg) ≤ x2 then
  some (0, m0)
  else
  gd (inb (0 : Int32) 516) (
  gd (!((m0 (a0 + 1) (0 : Int32).toNatClampNeg) == 0)) (
  bnd (irm (x2 + x1) (m0 (a0 + 1) (0 : Int32).toNatClampNeg)) (fun y1 =>
  X9_turns_L26 k2 FU a0 x1 x2 y1 (0 : Int32) m0)))))
def X9_turns_L2   : Nat → Nat → Int32 → Int32 → Mem → Res
  | 0 => fun _ _ _ _ => none
  | n + 1 => X9_turns_L2B (X9_turns_L2 n)
def f_X9_turns  (a0 : Nat) (x1 : Int32) (m0 : Mem) : Res :=
  X9_turns_L2 FU a0 x1 (0 : Int32) m0
set_option maxHeartbeats 2000000 in
theorem s_X9_turns_L26B {K : KT}  (C : Cx K cX9_turns RX9 5 1) (Rr : Rx K none)  {k2 : Nat → Int32 → Int32 → Mem → Res} {k26 : Nat → Int32 → Int32 → Int32 → Int32 → Mem → Res} (hk2 : ∀ (a0 : Nat) (x1 : Int32) (x2 : Int32) (h0 : tg a0 = 9) (m0 : Mem), G K 2 [(0, .ref (kf K a0)), (1, .int x1), (2, .int x2)] [] m0 (k2 a0 x1 x2 m0)) (hk26 : ∀ (a0 : Nat) (x1 : Int32) (x2 : Int32) (x3 : Int32) (x4 : Int32) (h0 : tg a0 = 9) (m0 : Mem), G K 26 [(0, .ref (kf K a0)), (1, .int x1), (2, .int x2), (3, .int x3), (4, .int x4)] [] m0 (k26 a0 x1 x2 x3 x4 m0)) (a0 : Nat) (x1 : Int32) (x2 : Int32) (x3 : Int32) (x4 : Int32) (h0 : tg a0 = 9) (m0 : Mem) : G K 26 [(0, .ref (kf K a0)), (1, .int x1), (2, .int x2), (3, .int x3), (4, .int x4)] [] m0 (X9_turns_L26B k2 k26 a0 x1 x2 x3 x4 m0) := by
  unfold X9_turns_L26B
  refine g_iload C dX9_turns_26 4 rfl ?_
  refine g_bipush C (21 : Int32) dX9_turns_28 rfl ?_
  refine g_icmp_ge C 69 dX9_turns_30 (by decide) (fun _ => ?_) (fun _ => ?_)
  · refine g_iinc (k := 2) C dX9_turns_69 rfl (w := (1 : Int32)) rfl (by decide) (fun v_ => [(2, .int v_), (0, .ref (kf K a0)), (1, .int x1), (3, .int x3), (4, .int x4)]) (fun _ => rfl) (fun y1 => ?_)
    refine g_goto C 2 dX9_turns_72 (by decide) ?_
    refine g_sub [1, 2, 0] rfl ?_
    exact hk2 a0 x1 y1 h0 m0
  · refine g_aload_n C dX9_turns_33 0 rfl rfl ?_
    refine g_getr C 0 1 Fx9 h0 (by decide) rfl rfl q_919 dX9_turns_34 ?_
    refine g_bipush C (16 : Int32) dX9_turns_37 rfl ?_
    refine g_bipush C (21 : Int32) dX9_turns_39 rfl ?_
    refine g_iload_n C dX9_turns_41 3 rfl rfl ?_
    refine g_imul C dX9_turns_42 ?_
    refine g_iadd C dX9_turns_43 ?_
    refine g_iload C dX9_turns_44 4 rfl ?_
    refine g_iadd C dX9_turns_46 ?_
    refine g_aload_n C dX9_turns_47 0 rfl rfl ?_
    refine g_getr C 2 3 Fx9 h0 (by decide) rfl rfl q_921 dX9_turns_48 ?_
    refine g_bipush C (16 : Int32) dX9_turns_51 rfl ?_
    refine g_bipush C (21 : Int32) dX9_turns_53 rfl ?_
    refine g_iload_n C dX9_turns_55 2 rfl rfl ?_
    refine g_imul C dX9_turns_56 ?_
    refine g_iadd C dX9_turns_57 ?_
    refine g_iload C dX9_turns_58 4 rfl ?_
    refine g_iadd C dX9_turns_60 ?_
    refine g_iald (n := 516) C (cl_9_2 h0) dX9_turns_61 (fun _ => ?_)
    refine g_iast (n := 516) C (cl_9_0 h0) dX9_turns_62 (fun m2 => ?_)
    refine g_iinc (k := 4) C dX9_turns_63 rfl (w := (1 : Int32)) rfl (by decide) (fun v_ => [(4, .int v_), (0, .ref (kf K a0)), (1, .int x1), (2, .int x2), (3, .int x3)]) (fun _ => rfl) (fun y3 => ?_)
    refine g_goto C 26 dX9_turns_66 (by decide) ?_
    refine g_sub [1, 2, 3, 4, 0] rfl ?_
    exact hk26 a0 x1 x2 x3 y3 h0 m2
theorem s_X9_turns_L26 {K : KT}  (C : Cx K cX9_turns RX9 5 1) (Rr : Rx K none)  {k2 : Nat → Int32 → Int32 → Mem → Res} (hk2 : ∀ (a0 : Nat) (x1 : Int32) (x2 : Int32) (h0 : tg a0 = 9) (m0 : Mem), G K 2 [(0, .ref (kf K a0)), (1, .int x1), (2, .int x2)] [] m0 (k2 a0 x1 x2 m0)) : ∀ (n : Nat) (a0 : Nat) (x1 : Int32) (x2 : Int32) (x3 : Int32) (x4 : Int32) (h0 : tg a0 = 9) (m0 : Mem), G K 26 [(0, .ref (kf K a0)), (1, .int x1), (2, .int x2), (3, .int x3), (4, .int x4)] [] m0 (X9_turns_L26 k2 n a0 x1 x2 x3 x4 m0) := by
  intro n
  induction n with
  | zero => intros; exact g_none
  | succ n ih =>
    intro a0 x1 x2 x3 x4 h0 m0
    exact s_X9_turns_L26B C Rr hk2 ih a0 x1 x2 x3 x4 h0 m0
set_option maxHeartbeats 2000000 in
theorem s_X9_turns_L2B {K : KT}  (C : Cx K cX9_turns RX9 5 1) (Rr : Rx K none)  {k2 : Nat → Int32 → Int32 → Mem → Res} (hk2 : ∀ (a0 : Nat) (x1 : Int32) (x2 : Int32) (h0 : tg a0 = 9) (m0 : Mem), G K 2 [(0, .ref (kf K a0)), (1, .int x1), (2, .int x2)] [] m0 (k2 a0 x1 x2 m0)) (a0 : Nat) (x1 : Int32) (x2 : Int32) (h0 : tg a0 = 9) (m0 : Mem) : G K 2 [(0, .ref (kf K a0)), (1, .int x1), (2, .int x2)] [] m0 (X9_turns_L2B k2 a0 x1 x2 m0) := by
  unfold X9_turns_L2B
  refine g_iload_n C dX9_turns_2 2 rfl rfl ?_
  refine g_aload_n C dX9_turns_3 0 rfl rfl ?_
  refine g_getr C 0 1 Fx9 h0 (by decide) rfl rfl q_919 dX9_turns_4 ?_
  refine g_iconst C (0 : Int32) dX9_turns_7 rfl ?_
  refine g_iald (n := 516) C (cl_9_0 h0) dX9_turns_8 (fun _ => ?_)
  refine g_icmp_ge C 75 dX9_turns_9 (by decide) (fun _ => ?_) (fun _ => ?_)
  · exact g_vret C Rr dX9_turns_75
  · refine g_iload_n C dX9_turns_12 2 rfl rfl ?_
    refine g_iload_n C dX9_turns_13 1 rfl rfl ?_
    refine g_iadd C dX9_turns_14 ?_
    refine g_aload_n C dX9_turns_15 0 rfl rfl ?_
    refine g_getr C 0 1 Fx9 h0 (by decide) rfl rfl q_919 dX9_turns_16 ?_
    refine g_iconst C (0 : Int32) dX9_turns_19 rfl ?_
    refine g_iald (n := 516) C (cl_9_0 h0) dX9_turns_20 (fun _ => ?_)
    refine g_irem C dX9_turns_21 (fun _ => ?_)
    refine g_bnd (fun y1 => ?_)
    refine g_istore_n C dX9_turns_22 rfl (by decide) rfl ?_
    refine g_iconst C (0 : Int32) dX9_turns_23 rfl ?_
    refine g_istore C dX9_turns_24 (by decide) rfl ?_
    refine g_sub [2, 3, 4, 1, 0] rfl ?_
    exact s_X9_turns_L26 C Rr hk2 FU a0 x1 x2 y1 (0 : Int32) h0 m0
theorem s_X9_turns_L2 {K : KT}  (C : Cx K cX9_turns RX9 5 1) (Rr : Rx K none)    : ∀ (n : Nat) (a0 : Nat) (x1 : Int32) (x2 : Int32) (h0 : tg a0 = 9) (m0 : Mem), G K 2 [(0, .ref (kf K a0)), (1, .int x1), (2, .int x2)] [] m0 (X9_turns_L2 n a0 x1 x2 m0) := by
  intro n
  induction n with
  | zero => intros; exact g_none
  | succ n ih =>
    intro a0 x1 x2 h0 m0
    exact s_X9_turns_L2B C Rr  ih a0 x1 x2 h0 m0
set_option maxHeartbeats 2000000 in
theorem s_X9_turns {K : KT}  (C : Cx K cX9_turns RX9 5 1) (Rr : Rx K none)  (a0 : Nat) (x1 : Int32) (h0 : tg a0 = 9) (m0 : Mem) : G K 0 [(0, .ref (kf K a0)), (1, .int x1)] [] m0 (f_X9_turns a0 x1 m0) := by
  unfold f_X9_turns
  refine g_iconst C (0 : Int32) dX9_turns_0 rfl ?_
  refine g_istore_n C dX9_turns_1 rfl (by decide) rfl ?_
  refine g_sub [1, 2, 0] rfl ?_
  exact s_X9_turns_L2 C Rr FU a0 x1 (0 : Int32) h0 m0
theorem ct_X9_turns {Ω : OT} (a0 : Nat) (x1 : Int32) (h0 : tg a0 = 9) (m0 : Mem) : Ct Ω yX9_turns cX9_turns 5 none 1 [.ref (oF Ω a0), .int x1] m0 (f_X9_turns a0 x1 m0) := by
  refine Ct_of (by decide) (Nat.le_of_ble_eq_true rfl) ?_
  intro K hK C Rr
  subst hK
  exact s_X9_turns C Rr  a0 x1 h0 m0
def X9_turn_J18   (a0 : Nat) (m0 : Mem) : Res :=
  cal (f_X9_error a0 (1 : Int32) m0) (fun r1 m2 =>
  some (r1, m2))
def X9_turn_J113  (k32 : Nat → Int32 → Int32 → Int32 → Int32 → Int32 → Mem → Res) (a0 : Nat) (x1 : Int32) (x2 : Int32) (x3 : Int32) (x4 : Int32) (x5 : Int32) (m0 : Mem) : Res :=
  bnd (x5 + (1 : Int32)) (fun y1 =>
  k32 a0 x1 x2 x3 x4 y1 m0)
def X9_turn_J106  (k32 : Nat → Int32 → Int32 → Int32 → Int32 → Int32 → Mem → Res) (a0 : Nat) (x1 : Int32) (x2 : Int32) (x5 : Int32) (x6 : Int32) (m0 : Mem) : Res :=
  X9_turn_J113 k32 a0 x1 x2 x5 x6 x5 m0
def X9_turn_L32B  (k32 : Nat → Int32 → Int32 → Int32 → Int32 → Int32 → Mem → Res) (a0 : Nat) (x1 : Int32) (x2 : Int32) (x3 : Int32) (x4 : Int32) (x5 : Int32) (m0 : Mem) : Res :=
  gd (inb (0 : Int32) 516) (
  (if (m0 (a0 + 1) (0 : Int32).toNatClampNeg) ≤ x5 then
  some (x3, m0)
  else
  cal (f_X9_carry (a0 + 1) 516 (a0 + 3) 516 m0) (fun r1 m2 =>
  cal (f_X9_turns a0 x5 m2) (fun r3 m4 =>
  cal (f_X9_go a0 x2 m4) (fun r5 m6 =>
  gd (inb (0 : Int32) 516) (
  gd (!((m6 (a0 + 1) (0 : Int32).toNatClampNeg) == 0)) (
  cal (f_X9_its a0 (irm (x1 + x5) (m6 (a0 + 1) (0 : Int32).toNatClampNeg)) (2 : Int32) m6) (fun r7 m8 =>
  cal (f_X9_carry (a0 + 3) 516 (a0 + 1) 516 m8) (fun r9 m10 =>
  (if x5 = 0 then
  X9_turn_J106 k32 a0 x1 x2 x5 r7 m10
  else
  (if r7 ≤ x4 then
  X9_turn_J113 k32 a0 x1 x2 x3 x4 x5 m10
  else
  X9_turn_J106 k32 a0 x1 x2 x5 r7 m10)))))))))))
def X9_turn_L32   : Nat → Nat → Int32 → Int32 → Int32 → Int32 → Int32 → Mem → Res
  | 0 => fun _ _ _ _ _ _ _ => none
  | n + 1 => X9_turn_L32B (X9_turn_L32 n)
def f_X9_turn  (a0 : Nat) (x1 : Int32) (x2 : Int32) (m0 : Mem) : Res :=
  cal (f_X9_isShop a0 x1 m0) (fun r1 m2 =>
  (if r1 = 0 then
  X9_turn_J18 a0 m2
  else
  cal (f_X9_in x2 (1 : Int32) (20 : Int32) m2) (fun r3 m4 =>
  (if r3 = 0 then
  X9_turn_J18 a0 m4
  else
  X9_turn_L32 FU a0 x1 x2 (0 : Int32) (0 : Int32) (0 : Int32) m4))))
set_option maxHeartbeats 2000000 in
theorem s_X9_turn_J18 {K : KT}  (C : Cx K cX9_turn RX9 7 10) (Rr : Rx K (some .int))    (a0 : Nat) (h0 : tg a0 = 9) (m0 : Mem) : G K 18 [(0, .ref (kf K a0))] [] m0 (X9_turn_J18 a0 m0) := by
  unfold X9_turn_J18
  refine g_aload_n C dX9_turn_18 0 rfl rfl ?_
  refine g_iconst C (1 : Int32) dX9_turn_19 rfl ?_
  refine g_callVi C cv_X9_error (ct_X9_error a0 (1 : Int32) h0 m0) q_990 h0 (by decide) rfl rfl (Nat.le_of_ble_eq_true rfl) dX9_turn_20 (fun r1 m2 => ?_)
  exact g_iret C Rr dX9_turn_23
set_option maxHeartbeats 2000000 in
theorem s_X9_turn_J113 {K : KT}  (C : Cx K cX9_turn RX9 7 10) (Rr : Rx K (some .int))  {k32 : Nat → Int32 → Int32 → Int32 → Int32 → Int32 → Mem → Res} (hk32 : ∀ (a0 : Nat) (x1 : Int32) (x2 : Int32) (x3 : Int32) (x4 : Int32) (x5 : Int32) (h0 : tg a0 = 9) (m0 : Mem), G K 32 [(0, .ref (kf K a0)), (1, .int x1), (2, .int x2), (3, .int x3), (4, .int x4), (5, .int x5)] [] m0 (k32 a0 x1 x2 x3 x4 x5 m0)) (a0 : Nat) (x1 : Int32) (x2 : Int32) (x3 : Int32) (x4 : Int32) (x5 : Int32) (h0 : tg a0 = 9) (m0 : Mem) : G K 113 [(0, .ref (kf K a0)), (1, .int x1), (2, .int x2), (3, .int x3), (4, .int x4), (5, .int x5)] [] m0 (X9_turn_J113 k32 a0 x1 x2 x3 x4 x5 m0) := by
  unfold X9_turn_J113
  refine g_iinc (k := 5) C dX9_turn_113 rfl (w := (1 : Int32)) rfl (by decide) (fun v_ => [(5, .int v_), (0, .ref (kf K a0)), (1, .int x1), (2, .int x2), (3, .int x3), (4, .int x4)]) (fun _ => rfl) (fun y1 => ?_)
  refine g_goto C 32 dX9_turn_116 (by decide) ?_
  refine g_sub [1, 2, 3, 4, 5, 0] rfl ?_
  exact hk32 a0 x1 x2 x3 x4 y1 h0 m0
set_option maxHeartbeats 2000000 in
theorem s_X9_turn_J106 {K : KT}  (C : Cx K cX9_turn RX9 7 10) (Rr : Rx K (some .int))  {k32 : Nat → Int32 → Int32 → Int32 → Int32 → Int32 → Mem → Res} (hk32 : ∀ (a0 : Nat) (x1 : Int32) (x2 : Int32) (x3 : Int32) (x4 : Int32) (x5 : Int32) (h0 : tg a0 = 9) (m0 : Mem), G K 32 [(0, .ref (kf K a0)), (1, .int x1), (2, .int x2), (3, .int x3), (4, .int x4), (5, .int x5)] [] m0 (k32 a0 x1 x2 x3 x4 x5 m0)) (a0 : Nat) (x1 : Int32) (x2 : Int32) (x5 : Int32) (x6 : Int32) (h0 : tg a0 = 9) (m0 : Mem) : G K 106 [(0, .ref (kf K a0)), (1, .int x1), (2, .int x2), (5, .int x5), (6, .int x6)] [] m0 (X9_turn_J106 k32 a0 x1 x2 x5 x6 m0) := by
  unfold X9_turn_J106
  refine g_iload C dX9_turn_106 3 rfl ?_
  refine g_istore_n C dX9_turn_108 rfl (by decide) rfl ?_
  refine g_iload C dX9_turn_109 5 rfl ?_
  refine g_istore C dX9_turn_111 (by decide) rfl ?_
  refine g_sub [2, 3, 4, 1, 0, 5] rfl ?_
  exact s_X9_turn_J113 C Rr hk32 a0 x1 x2 x5 x6 x5 h0 m0
set_option maxHeartbeats 2000000 in
theorem s_X9_turn_L32B {K : KT}  (C : Cx K cX9_turn RX9 7 10) (Rr : Rx K (some .int))  {k32 : Nat → Int32 → Int32 → Int32 → Int32 → Int32 → Mem → Res} (hk32 : ∀ (a0 : Nat) (x1 : Int32) (x2 : Int32) (x3 : Int32) (x4 : Int32) (x5 : Int32) (h0 : tg a0 = 9) (m0 : Mem), G K 32 [(0, .ref (kf K a0)), (1, .int x1), (2, .int x2), (3, .int x3), (4, .int x4), (5, .int x5)] [] m0 (k32 a0 x1 x2 x3 x4 x5 m0)) (a0 : Nat) (x1 : Int32) (x2 : Int32) (x3 : Int32) (x4 : Int32) (x5 : Int32) (h0 : tg a0 = 9) (m0 : Mem) : G K 32 [(0, .ref (kf K a0)), (1, .int x1), (2, .int x2), (3, .int x3), (4, .int x4), (5, .int x5)] [] m0 (X9_turn_L32B k32 a0 x1 x2 x3 x4 x5 m0) := by
  unfold X9_turn_L32B
  refine g_iload C dX9_turn_32 5 rfl ?_
  refine g_aload_n C dX9_turn_34 0 rfl rfl ?_
  refine g_getr C 0 1 Fx9 h0 (by decide) rfl rfl q_919 dX9_turn_35 ?_
  refine g_iconst C (0 : Int32) dX9_turn_38 rfl ?_
  refine g_iald (n := 516) C (cl_9_0 h0) dX9_turn_39 (fun _ => ?_)
  refine g_icmp_ge C 119 dX9_turn_40 (by decide) (fun _ => ?_) (fun _ => ?_)
  · refine g_iload_n C dX9_turn_119 3 rfl rfl ?_
    exact g_iret C Rr dX9_turn_120
  · refine g_aload_n C dX9_turn_43 0 rfl rfl ?_
    refine g_getr C 0 1 Fx9 h0 (by decide) rfl rfl q_919 dX9_turn_44 ?_
    refine g_aload_n C dX9_turn_47 0 rfl rfl ?_
    refine g_getr C 2 3 Fx9 h0 (by decide) rfl rfl q_921 dX9_turn_48 ?_
    refine g_callSv C cv_X9_carry q_1243 (ct_X9_carry (a0 + 1) 516 (a0 + 3) 516 (cl_9_0 h0) (cl_9_2 h0) m0) q_1242 (by decide) rfl rfl (Nat.le_of_ble_eq_true rfl) dX9_turn_51 (fun r1 m2 => ?_)
    refine g_aload_n C dX9_turn_54 0 rfl rfl ?_
    refine g_iload C dX9_turn_55 5 rfl ?_
    refine g_callVv C cv_X9_turns (ct_X9_turns a0 x5 h0 m2) q_1261 h0 (by decide) rfl rfl (Nat.le_of_ble_eq_true rfl) dX9_turn_57 (fun r3 m4 => ?_)
    refine g_aload_n C dX9_turn_60 0 rfl rfl ?_
    refine g_iload_n C dX9_turn_61 2 rfl rfl ?_
    refine g_callVv C cv_X9_go (ct_X9_go a0 x2 h0 m4) q_1214 h0 (by decide) rfl rfl (Nat.le_of_ble_eq_true rfl) dX9_turn_62 (fun r5 m6 => ?_)
    refine g_aload_n C dX9_turn_65 0 rfl rfl ?_
    refine g_iload_n C dX9_turn_66 1 rfl rfl ?_
    refine g_iload C dX9_turn_67 5 rfl ?_
    refine g_iadd C dX9_turn_69 ?_
    refine g_aload_n C dX9_turn_70 0 rfl rfl ?_
    refine g_getr C 0 1 Fx9 h0 (by decide) rfl rfl q_919 dX9_turn_71 ?_
    refine g_iconst C (0 : Int32) dX9_turn_74 rfl ?_
    refine g_iald (n := 516) C (cl_9_0 h0) dX9_turn_75 (fun _ => ?_)
    refine g_irem C dX9_turn_76 (fun _ => ?_)
    refine g_iconst C (2 : Int32) dX9_turn_77 rfl ?_
    refine g_callVi C cv_X9_its (ct_X9_its a0 (irm (x1 + x5) (m6 (a0 + 1) (0 : Int32).toNatClampNeg)) (2 : Int32) h0 m6) q_1031 h0 (by decide) rfl rfl (Nat.le_of_ble_eq_true rfl) dX9_turn_78 (fun r7 m8 => ?_)
    refine g_istore C dX9_turn_81 (by decide) rfl ?_
    refine g_aload_n C dX9_turn_83 1 rfl rfl ?_
    refine g_getr C 2 3 Fx9 h0 (by decide) rfl rfl q_921 dX9_turn_84 ?_
    refine g_aload_n C dX9_turn_87 1 rfl rfl ?_
    refine g_getr C 0 1 Fx9 h0 (by decide) rfl rfl q_919 dX9_turn_88 ?_
    refine g_callSv C cv_X9_carry q_1243 (ct_X9_carry (a0 + 3) 516 (a0 + 1) 516 (cl_9_2 h0) (cl_9_0 h0) m8) q_1242 (by decide) rfl rfl (Nat.le_of_ble_eq_true rfl) dX9_turn_91 (fun r9 m10 => ?_)
    refine g_iload C dX9_turn_94 6 rfl ?_
    refine g_if_eq C 106 dX9_turn_96 (by decide) (fun _ => ?_) (fun _ => ?_)
    · refine g_sub [1, 2, 3, 6, 0] rfl ?_
      exact s_X9_turn_J106 C Rr hk32 a0 x1 x2 x5 r7 h0 m10
    · refine g_iload C dX9_turn_99 0 rfl ?_
      refine g_iload C dX9_turn_101 5 rfl ?_
      refine g_icmp_le C 113 dX9_turn_103 (by decide) (fun _ => ?_) (fun _ => ?_)
      · refine g_sub [1, 2, 3, 4, 5, 6] rfl ?_
        exact s_X9_turn_J113 C Rr hk32 a0 x1 x2 x3 x4 x5 h0 m10
      · refine g_sub [1, 2, 3, 6, 0] rfl ?_
        exact s_X9_turn_J106 C Rr hk32 a0 x1 x2 x5 r7 h0 m10
theorem s_X9_turn_L32 {K : KT}  (C : Cx K cX9_turn RX9 7 10) (Rr : Rx K (some .int))    : ∀ (n : Nat) (a0 : Nat) (x1 : Int32) (x2 : Int32) (x3 : Int32) (x4 : Int32) (x5 : Int32) (h0 : tg a0 = 9) (m0 : Mem), G K 32 [(0, .ref (kf K a0)), (1, .int x1), (2, .int x2), (3, .int x3), (4, .int x4), (5, .int x5)] [] m0 (X9_turn_L32 n a0 x1 x2 x3 x4 x5 m0) := by
  intro n
  induction n with
  | zero => intros; exact g_none
  | succ n ih =>
    intro a0 x1 x2 x3 x4 x5 h0 m0
    exact s_X9_turn_L32B C Rr  ih a0 x1 x2 x3 x4 x5 h0 m0
set_option maxHeartbeats 2000000 in
theorem s_X9_turn {K : KT}  (C : Cx K cX9_turn RX9 7 10) (Rr : Rx K (some .int))  (a0 : Nat) (x1 : Int32) (x2 : Int32) (h0 : tg a0 = 9) (m0 : Mem) : G K 0 [(0, .ref (kf K a0)), (1, .int x1), (2, .int x2)] [] m0 (f_X9_turn a0 x1 x2 m0) := by
  unfold f_X9_turn
  refine g_aload_n C dX9_turn_0 0 rfl rfl ?_
  refine g_iload_n C dX9_turn_1 1 rfl rfl ?_
  refine g_callVi C cv_X9_isShop (ct_X9_isShop a0 x1 h0 m0) q_1011 h0 (by decide) rfl rfl (Nat.le_of_ble_eq_true rfl) dX9_turn_2 (fun r1 m2 => ?_)
  refine g_if_eq C 18 dX9_turn_5 (by decide) (fun _ => ?_) (fun _ => ?_)
  · refine g_sub [0] rfl ?_
    exact s_X9_turn_J18 C Rr a0 h0 m2
  · refine g_iload_n C dX9_turn_8 2 rfl rfl ?_
    refine g_iconst C (1 : Int32) dX9_turn_9 rfl ?_
    refine g_bipush C (20 : Int32) dX9_turn_10 rfl ?_
    refine g_callSi C cv_X9_in q_988 (ct_X9_in x2 (1 : Int32) (20 : Int32)  m2) q_987 (by decide) rfl rfl (Nat.le_of_ble_eq_true rfl) dX9_turn_12 (fun r3 m4 => ?_)
    refine g_if_ne C 24 dX9_turn_15 (by decide) (fun _ => ?_) (fun _ => ?_)
    · refine g_iconst C (0 : Int32) dX9_turn_24 rfl ?_
      refine g_istore_n C dX9_turn_25 rfl (by decide) rfl ?_
      refine g_iconst C (0 : Int32) dX9_turn_26 rfl ?_
      refine g_istore C dX9_turn_27 (by decide) rfl ?_
      refine g_iconst C (0 : Int32) dX9_turn_29 rfl ?_
      refine g_istore C dX9_turn_30 (by decide) rfl ?_
      refine g_sub [3, 4, 5, 2, 1, 0] rfl ?_
      exact s_X9_turn_L32 C Rr FU a0 x1 x2 (0 : Int32) (0 : Int32) (0 : Int32) h0 m4
    · refine g_sub [0] rfl ?_
      exact s_X9_turn_J18 C Rr a0 h0 m4
theorem ct_X9_turn {Ω : OT} (a0 : Nat) (x1 : Int32) (x2 : Int32) (h0 : tg a0 = 9) (m0 : Mem) : Ct Ω yX9_turn cX9_turn 7 (some .int) 10 [.ref (oF Ω a0), .int x1, .int x2] m0 (f_X9_turn a0 x1 x2 m0) := by
  refine Ct_of (by decide) (Nat.le_of_ble_eq_true rfl) ?_
  intro K hK C Rr
  subst hK
  exact s_X9_turn C Rr  a0 x1 x2 h0 m0
def X9_behindVisits_L2B  (k2 : Nat → Int32 → Int32 → Mem → Res) (a0 : Nat) (x1 : Int32) (x2 : Int32) (m0 : Mem) : Res :=
  gd (inb (1 : Int32) 516) (
  (if (m0 (a0 + 1) (1 : Int32).toNatClampNeg) ≤ x2 then
  cal (f_X9_its a0 x1 (2 : Int32) m0) (fun r1 m2 =>
  cal (f_X9_carry (a0 + 3) 516 (a0 + 1) 516 m2) (fun r3 m4 =>
  some (r1, m4)))
  else
  cal (f_X9_visits a0 x2 m0) (fun r5 m6 =>
  bnd (x2 + (1 : Int32)) (fun y7 =>
  k2 a0 x1 y7 m6))))
def X9_behindVisits_L2   : Nat → Nat → Int32 → Int32 → Mem → Res
  | 0 => fun _ _ _ _ => none
  | n + 1 => X9_behindVisits_L2B (X9_behindVisits_L2 n)
def f_X9_behindVisits  (a0 : Nat) (x1 : Int32) (m0 : Mem) : Res :=
  X9_behindVisits_L2 FU a0 x1 (0 : Int32) m0
set_option maxHeartbeats 2000000 in
theorem s_X9_behindVisits_L2B {K : KT}  (C : Cx K cX9_behindVisits RX9 4 6) (Rr : Rx K (some .int))  {k2 : Nat → Int32 → Int32 → Mem → Res} (hk2 : ∀ (a0 : Nat) (x1 : Int32) (x2 : Int32) (h0 : tg a0 = 9) (m0 : Mem), G K 2 [(0, .ref (kf K a0)), (1, .int x1), (2, .int x2)] [] m0 (k2 a0 x1 x2 m0)) (a0 : Nat) (x1 : Int32) (x2 : Int32) (h0 : tg a0 = 9) (m0 : Mem) : G K 2 [(0, .ref (kf K a0)), (1, .int x1), (2, .int x2)] [] m0 (X9_behindVisits_L2B k2 a0 x1 x2 m0) := by
  unfold X9_behindVisits_L2B
  refine g_iload_n C dX9_behindVisits_2 2 rfl rfl ?_
  refine g_aload_n C dX9_behindVisits_3 0 rfl rfl ?_
  refine g_getr C 0 1 Fx9 h0 (by decide) rfl rfl q_919 dX9_behindVisits_4 ?_
  refine g_iconst C (1 : Int32) dX9_behindVisits_7 rfl ?_
  refine g_iald (n := 516) C (cl_9_0 h0) dX9_behindVisits_8 (fun _ => ?_)
  refine g_icmp_ge C 24 dX9_behindVisits_9 (by decide) (fun _ => ?_) (fun _ => ?_)
  · refine g_aload_n C dX9_behindVisits_24 0 rfl rfl ?_
    refine g_iload_n C dX9_behindVisits_25 1 rfl rfl ?_
    refine g_iconst C (2 : Int32) dX9_behindVisits_26 rfl ?_
    refine g_callVi C cv_X9_its (ct_X9_its a0 x1 (2 : Int32) h0 m0) q_1031 h0 (by decide) rfl rfl (Nat.le_of_ble_eq_true rfl) dX9_behindVisits_27 (fun r1 m2 => ?_)
    refine g_istore_n C dX9_behindVisits_30 rfl (by decide) rfl ?_
    refine g_aload_n C dX9_behindVisits_31 1 rfl rfl ?_
    refine g_getr C 2 3 Fx9 h0 (by decide) rfl rfl q_921 dX9_behindVisits_32 ?_
    refine g_aload_n C dX9_behindVisits_35 1 rfl rfl ?_
    refine g_getr C 0 1 Fx9 h0 (by decide) rfl rfl q_919 dX9_behindVisits_36 ?_
    refine g_callSv C cv_X9_carry q_1243 (ct_X9_carry (a0 + 3) 516 (a0 + 1) 516 (cl_9_2 h0) (cl_9_0 h0) m2) q_1242 (by decide) rfl rfl (Nat.le_of_ble_eq_true rfl) dX9_behindVisits_39 (fun r3 m4 => ?_)
    refine g_iload_n C dX9_behindVisits_42 0 rfl rfl ?_
    exact g_iret C Rr dX9_behindVisits_43
  · refine g_aload_n C dX9_behindVisits_12 0 rfl rfl ?_
    refine g_iload_n C dX9_behindVisits_13 2 rfl rfl ?_
    refine g_callVi C cv_X9_visits (ct_X9_visits a0 x2 h0 m0) q_1202 h0 (by decide) rfl rfl (Nat.le_of_ble_eq_true rfl) dX9_behindVisits_14 (fun r5 m6 => ?_)
    refine g_istore_n C dX9_behindVisits_17 rfl (by decide) rfl ?_
    refine g_iinc (k := 3) C dX9_behindVisits_18 rfl (w := (1 : Int32)) rfl (by decide) (fun v_ => [(2, .int v_), (3, .int r5), (0, .ref (kf K a0)), (1, .int x1)]) (fun _ => rfl) (fun y7 => ?_)
    refine g_goto C 2 dX9_behindVisits_21 (by decide) ?_
    refine g_sub [2, 3, 0] rfl ?_
    exact hk2 a0 x1 y7 h0 m6
theorem s_X9_behindVisits_L2 {K : KT}  (C : Cx K cX9_behindVisits RX9 4 6) (Rr : Rx K (some .int))    : ∀ (n : Nat) (a0 : Nat) (x1 : Int32) (x2 : Int32) (h0 : tg a0 = 9) (m0 : Mem), G K 2 [(0, .ref (kf K a0)), (1, .int x1), (2, .int x2)] [] m0 (X9_behindVisits_L2 n a0 x1 x2 m0) := by
  intro n
  induction n with
  | zero => intros; exact g_none
  | succ n ih =>
    intro a0 x1 x2 h0 m0
    exact s_X9_behindVisits_L2B C Rr  ih a0 x1 x2 h0 m0
set_option maxHeartbeats 2000000 in
theorem s_X9_behindVisits {K : KT}  (C : Cx K cX9_behindVisits RX9 4 6) (Rr : Rx K (some .int))  (a0 : Nat) (x1 : Int32) (h0 : tg a0 = 9) (m0 : Mem) : G K 0 [(0, .ref (kf K a0)), (1, .int x1)] [] m0 (f_X9_behindVisits a0 x1 m0) := by
  unfold f_X9_behindVisits
  refine g_iconst C (0 : Int32) dX9_behindVisits_0 rfl ?_
  refine g_istore_n C dX9_behindVisits_1 rfl (by decide) rfl ?_
  refine g_sub [1, 2, 0] rfl ?_
  exact s_X9_behindVisits_L2 C Rr FU a0 x1 (0 : Int32) h0 m0
theorem ct_X9_behindVisits {Ω : OT} (a0 : Nat) (x1 : Int32) (h0 : tg a0 = 9) (m0 : Mem) : Ct Ω yX9_behindVisits cX9_behindVisits 4 (some .int) 6 [.ref (oF Ω a0), .int x1] m0 (f_X9_behindVisits a0 x1 m0) := by
  refine Ct_of (by decide) (Nat.le_of_ble_eq_true rfl) ?_
  intro K hK C Rr
  subst hK
  exact s_X9_behindVisits C Rr  a0 x1 h0 m0
def X9_out_J15   (a0 : Nat) (m0 : Mem) : Res :=
  cal (f_X9_error a0 (1 : Int32) m0) (fun r1 m2 =>
  some (r1, m2))
def X9_out_J45   (a0 : Nat) (m0 : Mem) : Res :=
  cal (f_X9_error a0 (3 : Int32) m0) (fun r1 m2 =>
  some (r1, m2))
def f_X9_out  (a0 : Nat) (x1 : Int32) (x2 : Int32) (m0 : Mem) : Res :=
  cal (f_X9_isShop a0 x1 m0) (fun r1 m2 =>
  (if r1 = 0 then
  X9_out_J15 a0 m2
  else
  cal (f_X9_isGood x2 m2) (fun r3 m4 =>
  (if r3 = 0 then
  X9_out_J15 a0 m4
  else
  cal (f_X9_hasOther a0 x1 m4) (fun r5 m6 =>
  (if r5 = 0 then
  X9_out_J45 a0 m6
  else
  cal (f_X9_left a0 x1 m6) (fun r7 m8 =>
  cal (f_X9_its a0 r7 ((9 : Int32) + x2) m8) (fun r9 m10 =>
  (if r9 = 0 then
  X9_out_J45 a0 m10
  else
  cal (f_X9_carry (a0 + 1) 516 (a0 + 3) 516 m10) (fun r11 m12 =>
  cal (f_X9_behindVisits a0 x1 m12) (fun r13 m14 =>
  cal (f_X9_buysOut a0 x1 x2 m14) (fun r15 m16 =>
  cal (f_X9_behindVisits a0 x1 m16) (fun r17 m18 =>
  some (r17 - r13, m18))))))))))))))
set_option maxHeartbeats 2000000 in
theorem s_X9_out_J15 {K : KT}  (C : Cx K cX9_out RX9 4 7) (Rr : Rx K (some .int))    (a0 : Nat) (h0 : tg a0 = 9) (m0 : Mem) : G K 15 [(0, .ref (kf K a0))] [] m0 (X9_out_J15 a0 m0) := by
  unfold X9_out_J15
  refine g_aload_n C dX9_out_15 0 rfl rfl ?_
  refine g_iconst C (1 : Int32) dX9_out_16 rfl ?_
  refine g_callVi C cv_X9_error (ct_X9_error a0 (1 : Int32) h0 m0) q_990 h0 (by decide) rfl rfl (Nat.le_of_ble_eq_true rfl) dX9_out_17 (fun r1 m2 => ?_)
  exact g_iret C Rr dX9_out_20
set_option maxHeartbeats 2000000 in
theorem s_X9_out_J45 {K : KT}  (C : Cx K cX9_out RX9 4 7) (Rr : Rx K (some .int))    (a0 : Nat) (h0 : tg a0 = 9) (m0 : Mem) : G K 45 [(0, .ref (kf K a0))] [] m0 (X9_out_J45 a0 m0) := by
  unfold X9_out_J45
  refine g_aload_n C dX9_out_45 0 rfl rfl ?_
  refine g_iconst C (3 : Int32) dX9_out_46 rfl ?_
  refine g_callVi C cv_X9_error (ct_X9_error a0 (3 : Int32) h0 m0) q_990 h0 (by decide) rfl rfl (Nat.le_of_ble_eq_true rfl) dX9_out_47 (fun r1 m2 => ?_)
  exact g_iret C Rr dX9_out_50
set_option maxHeartbeats 2000000 in
theorem s_X9_out {K : KT}  (C : Cx K cX9_out RX9 4 7) (Rr : Rx K (some .int))  (a0 : Nat) (x1 : Int32) (x2 : Int32) (h0 : tg a0 = 9) (m0 : Mem) : G K 0 [(0, .ref (kf K a0)), (1, .int x1), (2, .int x2)] [] m0 (f_X9_out a0 x1 x2 m0) := by
  unfold f_X9_out
  refine g_aload_n C dX9_out_0 0 rfl rfl ?_
  refine g_iload_n C dX9_out_1 1 rfl rfl ?_
  refine g_callVi C cv_X9_isShop (ct_X9_isShop a0 x1 h0 m0) q_1011 h0 (by decide) rfl rfl (Nat.le_of_ble_eq_true rfl) dX9_out_2 (fun r1 m2 => ?_)
  refine g_if_eq C 15 dX9_out_5 (by decide) (fun _ => ?_) (fun _ => ?_)
  · refine g_sub [0] rfl ?_
    exact s_X9_out_J15 C Rr a0 h0 m2
  · refine g_iload_n C dX9_out_8 2 rfl rfl ?_
    refine g_callSi C cv_X9_isGood q_985 (ct_X9_isGood x2  m2) q_984 (by decide) rfl rfl (Nat.le_of_ble_eq_true rfl) dX9_out_9 (fun r3 m4 => ?_)
    refine g_if_ne C 21 dX9_out_12 (by decide) (fun _ => ?_) (fun _ => ?_)
    · refine g_aload_n C dX9_out_21 0 rfl rfl ?_
      refine g_iload_n C dX9_out_22 1 rfl rfl ?_
      refine g_callVi C cv_X9_hasOther (ct_X9_hasOther a0 x1 h0 m4) q_1190 h0 (by decide) rfl rfl (Nat.le_of_ble_eq_true rfl) dX9_out_23 (fun r5 m6 => ?_)
      refine g_if_eq C 45 dX9_out_26 (by decide) (fun _ => ?_) (fun _ => ?_)
      · refine g_sub [0] rfl ?_
        exact s_X9_out_J45 C Rr a0 h0 m6
      · refine g_aload_n C dX9_out_29 0 rfl rfl ?_
        refine g_aload_n C dX9_out_30 0 rfl rfl ?_
        refine g_iload_n C dX9_out_31 1 rfl rfl ?_
        refine g_callVi C cv_X9_left (ct_X9_left a0 x1 h0 m6) q_1027 h0 (by decide) rfl rfl (Nat.le_of_ble_eq_true rfl) dX9_out_32 (fun r7 m8 => ?_)
        refine g_bipush C (9 : Int32) dX9_out_35 rfl ?_
        refine g_iload_n C dX9_out_37 2 rfl rfl ?_
        refine g_iadd C dX9_out_38 ?_
        refine g_callVi C cv_X9_its (ct_X9_its a0 r7 ((9 : Int32) + x2) h0 m8) q_1031 h0 (by decide) rfl rfl (Nat.le_of_ble_eq_true rfl) dX9_out_39 (fun r9 m10 => ?_)
        refine g_if_ne C 51 dX9_out_42 (by decide) (fun _ => ?_) (fun _ => ?_)
        · refine g_aload_n C dX9_out_51 0 rfl rfl ?_
          refine g_getr C 0 1 Fx9 h0 (by decide) rfl rfl q_919 dX9_out_52 ?_
          refine g_aload_n C dX9_out_55 0 rfl rfl ?_
          refine g_getr C 2 3 Fx9 h0 (by decide) rfl rfl q_921 dX9_out_56 ?_
          refine g_callSv C cv_X9_carry q_1243 (ct_X9_carry (a0 + 1) 516 (a0 + 3) 516 (cl_9_0 h0) (cl_9_2 h0) m10) q_1242 (by decide) rfl rfl (Nat.le_of_ble_eq_true rfl) dX9_out_59 (fun r11 m12 => ?_)
          refine g_aload_n C dX9_out_62 0 rfl rfl ?_
          refine g_iload_n C dX9_out_63 1 rfl rfl ?_
          refine g_callVi C cv_X9_behindVisits (ct_X9_behindVisits a0 x1 h0 m12) q_1269 h0 (by decide) rfl rfl (Nat.le_of_ble_eq_true rfl) dX9_out_64 (fun r13 m14 => ?_)
          refine g_istore_n C dX9_out_67 rfl (by decide) rfl ?_
          refine g_aload_n C dX9_out_68 1 rfl rfl ?_
          refine g_iload_n C dX9_out_69 2 rfl rfl ?_
          refine g_iload_n C dX9_out_70 3 rfl rfl ?_
          refine g_callVv C cv_X9_buysOut (ct_X9_buysOut a0 x1 x2 h0 m14) q_1194 h0 (by decide) rfl rfl (Nat.le_of_ble_eq_true rfl) dX9_out_71 (fun r15 m16 => ?_)
          refine g_aload_n C dX9_out_74 1 rfl rfl ?_
          refine g_iload_n C dX9_out_75 2 rfl rfl ?_
          refine g_callVi C cv_X9_behindVisits (ct_X9_behindVisits a0 x1 h0 m16) q_1269 h0 (by decide) rfl rfl (Nat.le_of_ble_eq_true rfl) dX9_out_76 (fun r17 m18 => ?_)
          refine g_iload_n C dX9_out_79 0 rfl rfl ?_
          refine g_isub C dX9_out_80 ?_
          exact g_iret C Rr dX9_out_81
        · refine g_sub [0] rfl ?_
          exact s_X9_out_J45 C Rr a0 h0 m10
    · refine g_sub [0] rfl ?_
      exact s_X9_out_J15 C Rr a0 h0 m4
theorem ct_X9_out {Ω : OT} (a0 : Nat) (x1 : Int32) (x2 : Int32) (h0 : tg a0 = 9) (m0 : Mem) : Ct Ω yX9_out cX9_out 4 (some .int) 7 [.ref (oF Ω a0), .int x1, .int x2] m0 (f_X9_out a0 x1 x2 m0) := by
  refine Ct_of (by decide) (Nat.le_of_ble_eq_true rfl) ?_
  intro K hK C Rr
  subst hK
  exact s_X9_out C Rr  a0 x1 x2 h0 m0
def X9_joins_L114B  (k100 : Nat → Int32 → Mem → Res) (k114 : Nat → Int32 → Int32 → Mem → Res) (a0 : Nat) (x2 : Int32) (x3 : Int32) (m0 : Mem) : Res :=
  (if (21 : Int32) ≤ x3 then
  bnd (x2 + (1 : Int32)) (fun y1 =>
  k100 a0 y1 m0)
  else
  cal (f_X9_its a0 (x2 + (1 : Int32)) x3 m0) (fun r2 m3 =>
  cal (f_X9_lays1 a0 x2 x3 r2 m3) (fun r4 m5 =>
  bnd (x3 + (1 : Int32)) (fun y6 =>
  k114 a0 x2 y6 m5))))
def X9_joins_L114  (k100 : Nat → Int32 → Mem → Res) : Nat → Nat → Int32 → Int32 → Mem → Res
  | 0 => fun _ _ _ _ => none
  | n + 1 => X9_joins_L114B k100 (X9_joins_L114 k100 n)
def X9_joins_L100B  (k100 : Nat → Int32 → Mem → Res) (a0 : Nat) (x2 : Int32) (m0 : Mem) : Res :=
  gd (inb (0 : Int32) 516) (
  (if (m0 (a0 + 1) (0 : Int32).toNatClampNeg) ≤ (x2 + (1 : Int32)) then
  gd (inb (0 : Int32) 516) (
  gd (inb (0 : Int32) 516) (bnd (mset m0 (a0 + 1) (0 : Int32).toNatClampNeg ((m0 (a0 + 1) (0 : Int32).toNatClampNeg) - (1 : Int32))) (fun m1 =>
  some (0, m1))))
  else
  X9_joins_L114 k100 FU a0 x2 (0 : Int32) m0))
def X9_joins_L100   : Nat → Nat → Int32 → Mem → Res
  | 0 => fun _ _ _ => none
  | n + 1 => X9_joins_L100B (X9_joins_L100 n)
def X9_joins_L15B  (k15 : Nat → Int32 → Int32 → Mem → Res) (a0 : Nat) (x1 : Int32) (x2 : Int32) (m0 : Mem) : Res :=
  (if (6 : Int32) ≤ x2 then
  bnd (x1 + (1 : Int32)) (fun y1 =>
  X9_joins_L100 FU a0 y1 m0)
  else
  cal (f_X9_its a0 x1 ((3 : Int32) + x2) m0) (fun r2 m3 =>
  cal (f_X9_its a0 (x1 + (1 : Int32)) ((3 : Int32) + x2) m3) (fun r4 m5 =>
  cal (f_X9_held (r2 + r4) (0 : Int32) (9 : Int32) m5) (fun r6 m7 =>
  cal (f_X9_lays1 a0 x1 ((3 : Int32) + x2) r6 m7) (fun r8 m9 =>
  cal (f_X9_its a0 x1 ((9 : Int32) + x2) m9) (fun r10 m11 =>
  cal (f_X9_its a0 (x1 + (1 : Int32)) ((9 : Int32) + x2) m11) (fun r12 m13 =>
  cal (f_X9_held (r10 + r12) (0 : Int32) (99 : Int32) m13) (fun r14 m15 =>
  cal (f_X9_lays1 a0 x1 ((9 : Int32) + x2) r14 m15) (fun r16 m17 =>
  bnd (x2 + (1 : Int32)) (fun y18 =>
  k15 a0 x1 y18 m17))))))))))
def X9_joins_L15   : Nat → Nat → Int32 → Int32 → Mem → Res
  | 0 => fun _ _ _ _ => none
  | n + 1 => X9_joins_L15B (X9_joins_L15 n)
def f_X9_joins  (a0 : Nat) (x1 : Int32) (m0 : Mem) : Res :=
  cal (f_X9_its a0 (x1 + (1 : Int32)) (2 : Int32) m0) (fun r1 m2 =>
  cal (f_X9_gets a0 x1 r1 m2) (fun r3 m4 =>
  X9_joins_L15 FU a0 x1 (0 : Int32) m4))
set_option maxHeartbeats 2000000 in
theorem s_X9_joins_L114B {K : KT}  (C : Cx K cX9_joins RX9 4 3) (Rr : Rx K none)  {k100 : Nat → Int32 → Mem → Res} {k114 : Nat → Int32 → Int32 → Mem → Res} (hk100 : ∀ (a0 : Nat) (x2 : Int32) (h0 : tg a0 = 9) (m0 : Mem), G K 100 [(0, .ref (kf K a0)), (2, .int x2)] [] m0 (k100 a0 x2 m0)) (hk114 : ∀ (a0 : Nat) (x2 : Int32) (x3 : Int32) (h0 : tg a0 = 9) (m0 : Mem), G K 114 [(0, .ref (kf K a0)), (2, .int x2), (3, .int x3)] [] m0 (k114 a0 x2 x3 m0)) (a0 : Nat) (x2 : Int32) (x3 : Int32) (h0 : tg a0 = 9) (m0 : Mem) : G K 114 [(0, .ref (kf K a0)), (2, .int x2), (3, .int x3)] [] m0 (X9_joins_L114B k100 k114 a0 x2 x3 m0) := by
  unfold X9_joins_L114B
  refine g_iload_n C dX9_joins_114 2 rfl rfl ?_
  refine g_bipush C (21 : Int32) dX9_joins_115 rfl ?_
  refine g_icmp_ge C 140 dX9_joins_117 (by decide) (fun _ => ?_) (fun _ => ?_)
  · refine g_iinc (k := 1) C dX9_joins_140 rfl (w := (1 : Int32)) rfl (by decide) (fun v_ => [(2, .int v_), (0, .ref (kf K a0)), (3, .int x3)]) (fun _ => rfl) (fun y1 => ?_)
    refine g_goto C 100 dX9_joins_143 (by decide) ?_
    refine g_sub [1, 0] rfl ?_
    exact hk100 a0 y1 h0 m0
  · refine g_aload_n C dX9_joins_120 0 rfl rfl ?_
    refine g_iload_n C dX9_joins_121 1 rfl rfl ?_
    refine g_iload_n C dX9_joins_122 2 rfl rfl ?_
    refine g_aload_n C dX9_joins_123 0 rfl rfl ?_
    refine g_iload_n C dX9_joins_124 1 rfl rfl ?_
    refine g_iconst C (1 : Int32) dX9_joins_125 rfl ?_
    refine g_iadd C dX9_joins_126 ?_
    refine g_iload_n C dX9_joins_127 2 rfl rfl ?_
    refine g_callVi C cv_X9_its (ct_X9_its a0 (x2 + (1 : Int32)) x3 h0 m0) q_1031 h0 (by decide) rfl rfl (Nat.le_of_ble_eq_true rfl) dX9_joins_128 (fun r2 m3 => ?_)
    refine g_callVv C cv_X9_lays1 (ct_X9_lays1 a0 x2 x3 r2 h0 m3) q_1003 h0 (by decide) rfl rfl (Nat.le_of_ble_eq_true rfl) dX9_joins_131 (fun r4 m5 => ?_)
    refine g_iinc (k := 2) C dX9_joins_134 rfl (w := (1 : Int32)) rfl (by decide) (fun v_ => [(3, .int v_), (0, .ref (kf K a0)), (2, .int x2)]) (fun _ => rfl) (fun y6 => ?_)
    refine g_goto C 114 dX9_joins_137 (by decide) ?_
    refine g_sub [1, 2, 0] rfl ?_
    exact hk114 a0 x2 y6 h0 m5
theorem s_X9_joins_L114 {K : KT}  (C : Cx K cX9_joins RX9 4 3) (Rr : Rx K none)  {k100 : Nat → Int32 → Mem → Res} (hk100 : ∀ (a0 : Nat) (x2 : Int32) (h0 : tg a0 = 9) (m0 : Mem), G K 100 [(0, .ref (kf K a0)), (2, .int x2)] [] m0 (k100 a0 x2 m0)) : ∀ (n : Nat) (a0 : Nat) (x2 : Int32) (x3 : Int32) (h0 : tg a0 = 9) (m0 : Mem), G K 114 [(0, .ref (kf K a0)), (2, .int x2), (3, .int x3)] [] m0 (X9_joins_L114 k100 n a0 x2 x3 m0) := by
  intro n
  induction n with
  | zero => intros; exact g_none
  | succ n ih =>
    intro a0 x2 x3 h0 m0
    exact s_X9_joins_L114B C Rr hk100 ih a0 x2 x3 h0 m0
set_option maxHeartbeats 2000000 in
theorem s_X9_joins_L100B {K : KT}  (C : Cx K cX9_joins RX9 4 3) (Rr : Rx K none)  {k100 : Nat → Int32 → Mem → Res} (hk100 : ∀ (a0 : Nat) (x2 : Int32) (h0 : tg a0 = 9) (m0 : Mem), G K 100 [(0, .ref (kf K a0)), (2, .int x2)] [] m0 (k100 a0 x2 m0)) (a0 : Nat) (x2 : Int32) (h0 : tg a0 = 9) (m0 : Mem) : G K 100 [(0, .ref (kf K a0)), (2, .int x2)] [] m0 (X9_joins_L100B k100 a0 x2 m0) := by
  unfold X9_joins_L100B
  refine g_iload_n C dX9_joins_100 1 rfl rfl ?_
  refine g_iconst C (1 : Int32) dX9_joins_101 rfl ?_
  refine g_iadd C dX9_joins_102 ?_
  refine g_aload_n C dX9_joins_103 0 rfl rfl ?_
  refine g_getr C 0 1 Fx9 h0 (by decide) rfl rfl q_919 dX9_joins_104 ?_
  refine g_iconst C (0 : Int32) dX9_joins_107 rfl ?_
  refine g_iald (n := 516) C (cl_9_0 h0) dX9_joins_108 (fun _ => ?_)
  refine g_icmp_ge C 146 dX9_joins_109 (by decide) (fun _ => ?_) (fun _ => ?_)
  · refine g_aload_n C dX9_joins_146 0 rfl rfl ?_
    refine g_getr C 0 1 Fx9 h0 (by decide) rfl rfl q_919 dX9_joins_147 ?_
    refine g_iconst C (0 : Int32) dX9_joins_150 rfl ?_
    refine g_dup2 C dX9_joins_151 rfl rfl ?_
    refine g_iald (n := 516) C (cl_9_0 h0) dX9_joins_152 (fun _ => ?_)
    refine g_iconst C (1 : Int32) dX9_joins_153 rfl ?_
    refine g_isub C dX9_joins_154 ?_
    refine g_iast (n := 516) C (cl_9_0 h0) dX9_joins_155 (fun m1 => ?_)
    exact g_vret C Rr dX9_joins_156
  · refine g_iconst C (0 : Int32) dX9_joins_112 rfl ?_
    refine g_istore_n C dX9_joins_113 rfl (by decide) rfl ?_
    refine g_sub [1, 2, 0] rfl ?_
    exact s_X9_joins_L114 C Rr hk100 FU a0 x2 (0 : Int32) h0 m0
theorem s_X9_joins_L100 {K : KT}  (C : Cx K cX9_joins RX9 4 3) (Rr : Rx K none)    : ∀ (n : Nat) (a0 : Nat) (x2 : Int32) (h0 : tg a0 = 9) (m0 : Mem), G K 100 [(0, .ref (kf K a0)), (2, .int x2)] [] m0 (X9_joins_L100 n a0 x2 m0) := by
  intro n
  induction n with
  | zero => intros; exact g_none
  | succ n ih =>
    intro a0 x2 h0 m0
    exact s_X9_joins_L100B C Rr  ih a0 x2 h0 m0
set_option maxHeartbeats 2000000 in
theorem s_X9_joins_L15B {K : KT}  (C : Cx K cX9_joins RX9 4 3) (Rr : Rx K none)  {k15 : Nat → Int32 → Int32 → Mem → Res} (hk15 : ∀ (a0 : Nat) (x1 : Int32) (x2 : Int32) (h0 : tg a0 = 9) (m0 : Mem), G K 15 [(0, .ref (kf K a0)), (1, .int x1), (2, .int x2)] [] m0 (k15 a0 x1 x2 m0)) (a0 : Nat) (x1 : Int32) (x2 : Int32) (h0 : tg a0 = 9) (m0 : Mem) : G K 15 [(0, .ref (kf K a0)), (1, .int x1), (2, .int x2)] [] m0 (X9_joins_L15B k15 a0 x1 x2 m0) := by
  unfold X9_joins_L15B
  refine g_iload_n C dX9_joins_15 2 rfl rfl ?_
  refine g_bipush C (6 : Int32) dX9_joins_16 rfl ?_
  refine g_icmp_ge C 96 dX9_joins_18 (by decide) (fun _ => ?_) (fun _ => ?_)
  · refine g_iload_n C dX9_joins_96 1 rfl rfl ?_
    refine g_iconst C (1 : Int32) dX9_joins_97 rfl ?_
    refine g_iadd C dX9_joins_98 ?_
    refine g_bnd (fun y1 => ?_)
    refine g_istore_n C dX9_joins_99 rfl (by decide) rfl ?_
    refine g_sub [1, 0] rfl ?_
    exact s_X9_joins_L100 C Rr FU a0 y1 h0 m0
  · refine g_aload_n C dX9_joins_21 0 rfl rfl ?_
    refine g_iload_n C dX9_joins_22 1 rfl rfl ?_
    refine g_iconst C (3 : Int32) dX9_joins_23 rfl ?_
    refine g_iload_n C dX9_joins_24 2 rfl rfl ?_
    refine g_iadd C dX9_joins_25 ?_
    refine g_aload_n C dX9_joins_26 0 rfl rfl ?_
    refine g_iload_n C dX9_joins_27 1 rfl rfl ?_
    refine g_iconst C (3 : Int32) dX9_joins_28 rfl ?_
    refine g_iload_n C dX9_joins_29 2 rfl rfl ?_
    refine g_iadd C dX9_joins_30 ?_
    refine g_callVi C cv_X9_its (ct_X9_its a0 x1 ((3 : Int32) + x2) h0 m0) q_1031 h0 (by decide) rfl rfl (Nat.le_of_ble_eq_true rfl) dX9_joins_31 (fun r2 m3 => ?_)
    refine g_aload_n C dX9_joins_34 0 rfl rfl ?_
    refine g_iload_n C dX9_joins_35 1 rfl rfl ?_
    refine g_iconst C (1 : Int32) dX9_joins_36 rfl ?_
    refine g_iadd C dX9_joins_37 ?_
    refine g_iconst C (3 : Int32) dX9_joins_38 rfl ?_
    refine g_iload_n C dX9_joins_39 2 rfl rfl ?_
    refine g_iadd C dX9_joins_40 ?_
    refine g_callVi C cv_X9_its (ct_X9_its a0 (x1 + (1 : Int32)) ((3 : Int32) + x2) h0 m3) q_1031 h0 (by decide) rfl rfl (Nat.le_of_ble_eq_true rfl) dX9_joins_41 (fun r4 m5 => ?_)
    refine g_iadd C dX9_joins_44 ?_
    refine g_iconst C (0 : Int32) dX9_joins_45 rfl ?_
    refine g_bipush C (9 : Int32) dX9_joins_46 rfl ?_
    refine g_callSi C cv_X9_held q_1154 (ct_X9_held (r2 + r4) (0 : Int32) (9 : Int32)  m5) q_1153 (by decide) rfl rfl (Nat.le_of_ble_eq_true rfl) dX9_joins_48 (fun r6 m7 => ?_)
    refine g_callVv C cv_X9_lays1 (ct_X9_lays1 a0 x1 ((3 : Int32) + x2) r6 h0 m7) q_1003 h0 (by decide) rfl rfl (Nat.le_of_ble_eq_true rfl) dX9_joins_51 (fun r8 m9 => ?_)
    refine g_aload_n C dX9_joins_54 0 rfl rfl ?_
    refine g_iload_n C dX9_joins_55 1 rfl rfl ?_
    refine g_bipush C (9 : Int32) dX9_joins_56 rfl ?_
    refine g_iload_n C dX9_joins_58 2 rfl rfl ?_
    refine g_iadd C dX9_joins_59 ?_
    refine g_aload_n C dX9_joins_60 0 rfl rfl ?_
    refine g_iload_n C dX9_joins_61 1 rfl rfl ?_
    refine g_bipush C (9 : Int32) dX9_joins_62 rfl ?_
    refine g_iload_n C dX9_joins_64 2 rfl rfl ?_
    refine g_iadd C dX9_joins_65 ?_
    refine g_callVi C cv_X9_its (ct_X9_its a0 x1 ((9 : Int32) + x2) h0 m9) q_1031 h0 (by decide) rfl rfl (Nat.le_of_ble_eq_true rfl) dX9_joins_66 (fun r10 m11 => ?_)
    refine g_aload_n C dX9_joins_69 0 rfl rfl ?_
    refine g_iload_n C dX9_joins_70 1 rfl rfl ?_
    refine g_iconst C (1 : Int32) dX9_joins_71 rfl ?_
    refine g_iadd C dX9_joins_72 ?_
    refine g_bipush C (9 : Int32) dX9_joins_73 rfl ?_
    refine g_iload_n C dX9_joins_75 2 rfl rfl ?_
    refine g_iadd C dX9_joins_76 ?_
    refine g_callVi C cv_X9_its (ct_X9_its a0 (x1 + (1 : Int32)) ((9 : Int32) + x2) h0 m11) q_1031 h0 (by decide) rfl rfl (Nat.le_of_ble_eq_true rfl) dX9_joins_77 (fun r12 m13 => ?_)
    refine g_iadd C dX9_joins_80 ?_
    refine g_iconst C (0 : Int32) dX9_joins_81 rfl ?_
    refine g_bipush C (99 : Int32) dX9_joins_82 rfl ?_
    refine g_callSi C cv_X9_held q_1154 (ct_X9_held (r10 + r12) (0 : Int32) (99 : Int32)  m13) q_1153 (by decide) rfl rfl (Nat.le_of_ble_eq_true rfl) dX9_joins_84 (fun r14 m15 => ?_)
    refine g_callVv C cv_X9_lays1 (ct_X9_lays1 a0 x1 ((9 : Int32) + x2) r14 h0 m15) q_1003 h0 (by decide) rfl rfl (Nat.le_of_ble_eq_true rfl) dX9_joins_87 (fun r16 m17 => ?_)
    refine g_iinc (k := 2) C dX9_joins_90 rfl (w := (1 : Int32)) rfl (by decide) (fun v_ => [(2, .int v_), (0, .ref (kf K a0)), (1, .int x1)]) (fun _ => rfl) (fun y18 => ?_)
    refine g_goto C 15 dX9_joins_93 (by decide) ?_
    refine g_sub [1, 2, 0] rfl ?_
    exact hk15 a0 x1 y18 h0 m17
theorem s_X9_joins_L15 {K : KT}  (C : Cx K cX9_joins RX9 4 3) (Rr : Rx K none)    : ∀ (n : Nat) (a0 : Nat) (x1 : Int32) (x2 : Int32) (h0 : tg a0 = 9) (m0 : Mem), G K 15 [(0, .ref (kf K a0)), (1, .int x1), (2, .int x2)] [] m0 (X9_joins_L15 n a0 x1 x2 m0) := by
  intro n
  induction n with
  | zero => intros; exact g_none
  | succ n ih =>
    intro a0 x1 x2 h0 m0
    exact s_X9_joins_L15B C Rr  ih a0 x1 x2 h0 m0
set_option maxHeartbeats 2000000 in
theorem s_X9_joins {K : KT}  (C : Cx K cX9_joins RX9 4 3) (Rr : Rx K none)  (a0 : Nat) (x1 : Int32) (h0 : tg a0 = 9) (m0 : Mem) : G K 0 [(0, .ref (kf K a0)), (1, .int x1)] [] m0 (f_X9_joins a0 x1 m0) := by
  unfold f_X9_joins
  refine g_aload_n C dX9_joins_0 0 rfl rfl ?_
  refine g_iload_n C dX9_joins_1 1 rfl rfl ?_
  refine g_aload_n C dX9_joins_2 0 rfl rfl ?_
  refine g_iload_n C dX9_joins_3 1 rfl rfl ?_
  refine g_iconst C (1 : Int32) dX9_joins_4 rfl ?_
  refine g_iadd C dX9_joins_5 ?_
  refine g_iconst C (2 : Int32) dX9_joins_6 rfl ?_
  refine g_callVi C cv_X9_its (ct_X9_its a0 (x1 + (1 : Int32)) (2 : Int32) h0 m0) q_1031 h0 (by decide) rfl rfl (Nat.le_of_ble_eq_true rfl) dX9_joins_7 (fun r1 m2 => ?_)
  refine g_callVv C cv_X9_gets (ct_X9_gets a0 x1 r1 h0 m2) q_1180 h0 (by decide) rfl rfl (Nat.le_of_ble_eq_true rfl) dX9_joins_10 (fun r3 m4 => ?_)
  refine g_iconst C (0 : Int32) dX9_joins_13 rfl ?_
  refine g_istore_n C dX9_joins_14 rfl (by decide) rfl ?_
  refine g_sub [1, 2, 0] rfl ?_
  exact s_X9_joins_L15 C Rr FU a0 x1 (0 : Int32) h0 m4
theorem ct_X9_joins {Ω : OT} (a0 : Nat) (x1 : Int32) (h0 : tg a0 = 9) (m0 : Mem) : Ct Ω yX9_joins cX9_joins 4 none 3 [.ref (oF Ω a0), .int x1] m0 (f_X9_joins a0 x1 m0) := by
  refine Ct_of (by decide) (Nat.le_of_ble_eq_true rfl) ?_
  intro K hK C Rr
  subst hK
  exact s_X9_joins C Rr  a0 x1 h0 m0
def X9_joined__J26   (a0 : Nat) (m0 : Mem) : Res :=
  cal (f_X9_error a0 (1 : Int32) m0) (fun r1 m2 =>
  some (r1, m2))
def f_X9_joined_  (a0 : Nat) (x1 : Int32) (x2 : Int32) (m0 : Mem) : Res :=
  gd (inb (0 : Int32) 516) (
  cal (f_X9_in x1 (0 : Int32) ((m0 (a0 + 1) (0 : Int32).toNatClampNeg) - (2 : Int32)) m0) (fun r1 m2 =>
  (if r1 = 0 then
  X9_joined__J26 a0 m2
  else
  cal (f_X9_in x2 (1 : Int32) (20 : Int32) m2) (fun r3 m4 =>
  (if r3 = 0 then
  X9_joined__J26 a0 m4
  else
  cal (f_X9_carry (a0 + 1) 516 (a0 + 3) 516 m4) (fun r5 m6 =>
  cal (f_X9_go a0 x2 m6) (fun r7 m8 =>
  cal (f_X9_its a0 x1 (2 : Int32) m8) (fun r9 m10 =>
  cal (f_X9_its a0 (x1 + (1 : Int32)) (2 : Int32) m10) (fun r11 m12 =>
  bnd (r9 + r11) (fun y13 =>
  cal (f_X9_carry (a0 + 3) 516 (a0 + 1) 516 m12) (fun r14 m15 =>
  cal (f_X9_joins a0 x1 m15) (fun r16 m17 =>
  cal (f_X9_go a0 x2 m17) (fun r18 m19 =>
  cal (f_X9_its a0 x1 (2 : Int32) m19) (fun r20 m21 =>
  cal (f_X9_carry (a0 + 3) 516 (a0 + 1) 516 m21) (fun r22 m23 =>
  some (r20 - y13, m23))))))))))))))))
set_option maxHeartbeats 2000000 in
theorem s_X9_joined__J26 {K : KT}  (C : Cx K cX9_joined_ RX9 5 10) (Rr : Rx K (some .int))    (a0 : Nat) (h0 : tg a0 = 9) (m0 : Mem) : G K 26 [(0, .ref (kf K a0))] [] m0 (X9_joined__J26 a0 m0) := by
  unfold X9_joined__J26
  refine g_aload_n C dX9_joined__26 0 rfl rfl ?_
  refine g_iconst C (1 : Int32) dX9_joined__27 rfl ?_
  refine g_callVi C cv_X9_error (ct_X9_error a0 (1 : Int32) h0 m0) q_990 h0 (by decide) rfl rfl (Nat.le_of_ble_eq_true rfl) dX9_joined__28 (fun r1 m2 => ?_)
  exact g_iret C Rr dX9_joined__31
set_option maxHeartbeats 2000000 in
theorem s_X9_joined_ {K : KT}  (C : Cx K cX9_joined_ RX9 5 10) (Rr : Rx K (some .int))  (a0 : Nat) (x1 : Int32) (x2 : Int32) (h0 : tg a0 = 9) (m0 : Mem) : G K 0 [(0, .ref (kf K a0)), (1, .int x1), (2, .int x2)] [] m0 (f_X9_joined_ a0 x1 x2 m0) := by
  unfold f_X9_joined_
  refine g_iload_n C dX9_joined__0 1 rfl rfl ?_
  refine g_iconst C (0 : Int32) dX9_joined__1 rfl ?_
  refine g_aload_n C dX9_joined__2 0 rfl rfl ?_
  refine g_getr C 0 1 Fx9 h0 (by decide) rfl rfl q_919 dX9_joined__3 ?_
  refine g_iconst C (0 : Int32) dX9_joined__6 rfl ?_
  refine g_iald (n := 516) C (cl_9_0 h0) dX9_joined__7 (fun _ => ?_)
  refine g_iconst C (2 : Int32) dX9_joined__8 rfl ?_
  refine g_isub C dX9_joined__9 ?_
  refine g_callSi C cv_X9_in q_988 (ct_X9_in x1 (0 : Int32) ((m0 (a0 + 1) (0 : Int32).toNatClampNeg) - (2 : Int32))  m0) q_987 (by decide) rfl rfl (Nat.le_of_ble_eq_true rfl) dX9_joined__10 (fun r1 m2 => ?_)
  refine g_if_eq C 26 dX9_joined__13 (by decide) (fun _ => ?_) (fun _ => ?_)
  · refine g_sub [0] rfl ?_
    exact s_X9_joined__J26 C Rr a0 h0 m2
  · refine g_iload_n C dX9_joined__16 2 rfl rfl ?_
    refine g_iconst C (1 : Int32) dX9_joined__17 rfl ?_
    refine g_bipush C (20 : Int32) dX9_joined__18 rfl ?_
    refine g_callSi C cv_X9_in q_988 (ct_X9_in x2 (1 : Int32) (20 : Int32)  m2) q_987 (by decide) rfl rfl (Nat.le_of_ble_eq_true rfl) dX9_joined__20 (fun r3 m4 => ?_)
    refine g_if_ne C 32 dX9_joined__23 (by decide) (fun _ => ?_) (fun _ => ?_)
    · refine g_aload_n C dX9_joined__32 0 rfl rfl ?_
      refine g_getr C 0 1 Fx9 h0 (by decide) rfl rfl q_919 dX9_joined__33 ?_
      refine g_aload_n C dX9_joined__36 0 rfl rfl ?_
      refine g_getr C 2 3 Fx9 h0 (by decide) rfl rfl q_921 dX9_joined__37 ?_
      refine g_callSv C cv_X9_carry q_1243 (ct_X9_carry (a0 + 1) 516 (a0 + 3) 516 (cl_9_0 h0) (cl_9_2 h0) m4) q_1242 (by decide) rfl rfl (Nat.le_of_ble_eq_true rfl) dX9_joined__40 (fun r5 m6 => ?_)
      refine g_aload_n C dX9_joined__43 0 rfl rfl ?_
      refine g_iload_n C dX9_joined__44 2 rfl rfl ?_
      refine g_callVv C cv_X9_go (ct_X9_go a0 x2 h0 m6) q_1214 h0 (by decide) rfl rfl (Nat.le_of_ble_eq_true rfl) dX9_joined__45 (fun r7 m8 => ?_)
      refine g_aload_n C dX9_joined__48 0 rfl rfl ?_
      refine g_iload_n C dX9_joined__49 1 rfl rfl ?_
      refine g_iconst C (2 : Int32) dX9_joined__50 rfl ?_
      refine g_callVi C cv_X9_its (ct_X9_its a0 x1 (2 : Int32) h0 m8) q_1031 h0 (by decide) rfl rfl (Nat.le_of_ble_eq_true rfl) dX9_joined__51 (fun r9 m10 => ?_)
      refine g_aload_n C dX9_joined__54 0 rfl rfl ?_
      refine g_iload_n C dX9_joined__55 1 rfl rfl ?_
      refine g_iconst C (1 : Int32) dX9_joined__56 rfl ?_
      refine g_iadd C dX9_joined__57 ?_
      refine g_iconst C (2 : Int32) dX9_joined__58 rfl ?_
      refine g_callVi C cv_X9_its (ct_X9_its a0 (x1 + (1 : Int32)) (2 : Int32) h0 m10) q_1031 h0 (by decide) rfl rfl (Nat.le_of_ble_eq_true rfl) dX9_joined__59 (fun r11 m12 => ?_)
      refine g_iadd C dX9_joined__62 ?_
      refine g_bnd (fun y13 => ?_)
      refine g_istore_n C dX9_joined__63 rfl (by decide) rfl ?_
      refine g_aload_n C dX9_joined__64 1 rfl rfl ?_
      refine g_getr C 2 3 Fx9 h0 (by decide) rfl rfl q_921 dX9_joined__65 ?_
      refine g_aload_n C dX9_joined__68 1 rfl rfl ?_
      refine g_getr C 0 1 Fx9 h0 (by decide) rfl rfl q_919 dX9_joined__69 ?_
      refine g_callSv C cv_X9_carry q_1243 (ct_X9_carry (a0 + 3) 516 (a0 + 1) 516 (cl_9_2 h0) (cl_9_0 h0) m12) q_1242 (by decide) rfl rfl (Nat.le_of_ble_eq_true rfl) dX9_joined__72 (fun r14 m15 => ?_)
      refine g_aload_n C dX9_joined__75 1 rfl rfl ?_
      refine g_iload_n C dX9_joined__76 2 rfl rfl ?_
      refine g_callVv C cv_X9_joins (ct_X9_joins a0 x1 h0 m15) q_1277 h0 (by decide) rfl rfl (Nat.le_of_ble_eq_true rfl) dX9_joined__77 (fun r16 m17 => ?_)
      refine g_aload_n C dX9_joined__80 1 rfl rfl ?_
      refine g_iload_n C dX9_joined__81 3 rfl rfl ?_
      refine g_callVv C cv_X9_go (ct_X9_go a0 x2 h0 m17) q_1214 h0 (by decide) rfl rfl (Nat.le_of_ble_eq_true rfl) dX9_joined__82 (fun r18 m19 => ?_)
      refine g_aload_n C dX9_joined__85 1 rfl rfl ?_
      refine g_iload_n C dX9_joined__86 2 rfl rfl ?_
      refine g_iconst C (2 : Int32) dX9_joined__87 rfl ?_
      refine g_callVi C cv_X9_its (ct_X9_its a0 x1 (2 : Int32) h0 m19) q_1031 h0 (by decide) rfl rfl (Nat.le_of_ble_eq_true rfl) dX9_joined__88 (fun r20 m21 => ?_)
      refine g_istore C dX9_joined__91 (by decide) rfl ?_
      refine g_aload_n C dX9_joined__93 2 rfl rfl ?_
      refine g_getr C 2 3 Fx9 h0 (by decide) rfl rfl q_921 dX9_joined__94 ?_
      refine g_aload_n C dX9_joined__97 2 rfl rfl ?_
      refine g_getr C 0 1 Fx9 h0 (by decide) rfl rfl q_919 dX9_joined__98 ?_
      refine g_callSv C cv_X9_carry q_1243 (ct_X9_carry (a0 + 3) 516 (a0 + 1) 516 (cl_9_2 h0) (cl_9_0 h0) m21) q_1242 (by decide) rfl rfl (Nat.le_of_ble_eq_true rfl) dX9_joined__101 (fun r22 m23 => ?_)
      refine g_iload C dX9_joined__104 0 rfl ?_
      refine g_iload_n C dX9_joined__106 1 rfl rfl ?_
      refine g_isub C dX9_joined__107 ?_
      exact g_iret C Rr dX9_joined__108
    · refine g_sub [0] rfl ?_
      exact s_X9_joined__J26 C Rr a0 h0 m4
theorem ct_X9_joined_ {Ω : OT} (a0 : Nat) (x1 : Int32) (x2 : Int32) (h0 : tg a0 = 9) (m0 : Mem) : Ct Ω yX9_joined_ cX9_joined_ 5 (some .int) 10 [.ref (oF Ω a0), .int x1, .int x2] m0 (f_X9_joined_ a0 x1 x2 m0) := by
  refine Ct_of (by decide) (Nat.le_of_ble_eq_true rfl) ?_
  intro K hK C Rr
  subst hK
  exact s_X9_joined_ C Rr  a0 x1 x2 h0 m0
def X9_walk_J71   (xs0 : Int32) (m0 : Mem) : Res :=
  some (xs0, m0)
def X9_walk_J58   (a0 : Nat) (x2 : Int32) (x3 : Int32) (m0 : Mem) : Res :=
  (if x2 = 0 then
  X9_walk_J71 x3 m0
  else
  cal (f_X9_error a0 (2 : Int32) m0) (fun r1 m2 =>
  X9_walk_J71 r1 m2))
def X9_walk_L23B  (k23 : Nat → Int32 → Int32 → Int32 → Mem → Res) (a0 : Nat) (x1 : Int32) (x2 : Int32) (x3 : Int32) (m0 : Mem) : Res :=
  (if x2 = 0 then
  X9_walk_J58 a0 x2 x3 m0
  else
  gd (inb (0 : Int32) 516) (
  (if (m0 (a0 + 1) (0 : Int32).toNatClampNeg) ≤ x3 then
  X9_walk_J58 a0 x2 x3 m0
  else
  cal (f_X9_shopOn a0 x1 x3 m0) (fun r1 m2 =>
  cal (f_X9_maySell a0 r1 m2) (fun r3 m4 =>
  bnd (x2 &&& (r3 ^^^ (-1 : Int32))) (fun y5 =>
  bnd (x3 + (1 : Int32)) (fun y6 =>
  k23 a0 x1 y5 y6 m4)))))))
def X9_walk_L23   : Nat → Nat → Int32 → Int32 → Int32 → Mem → Res
  | 0 => fun _ _ _ _ _ => none
  | n + 1 => X9_walk_L23B (X9_walk_L23 n)
def f_X9_walk  (a0 : Nat) (x1 : Int32) (m0 : Mem) : Res :=
  cal (f_X9_isCustomer a0 x1 m0) (fun r1 m2 =>
  (if r1 = 0 then
  cal (f_X9_error a0 (1 : Int32) m2) (fun r5 m6 =>
  some (r5, m6))
  else
  cal (f_X9_of a0 x1 (0 : Int32) m2) (fun r3 m4 =>
  X9_walk_L23 FU a0 x1 r3 (0 : Int32) m4)))
set_option maxHeartbeats 2000000 in
theorem s_X9_walk_J71 {K : KT}  (C : Cx K cX9_walk RX9 4 5) (Rr : Rx K (some .int))    (xs0 : Int32)  (m0 : Mem) : G K 71 [] [.int xs0] m0 (X9_walk_J71 xs0 m0) := by
  unfold X9_walk_J71
  exact g_iret C Rr dX9_walk_71
set_option maxHeartbeats 2000000 in
theorem s_X9_walk_J58 {K : KT}  (C : Cx K cX9_walk RX9 4 5) (Rr : Rx K (some .int))    (a0 : Nat) (x2 : Int32) (x3 : Int32) (h0 : tg a0 = 9) (m0 : Mem) : G K 58 [(0, .ref (kf K a0)), (2, .int x2), (3, .int x3)] [] m0 (X9_walk_J58 a0 x2 x3 m0) := by
  unfold X9_walk_J58
  refine g_iload_n C dX9_walk_58 1 rfl rfl ?_
  refine g_if_ne C 66 dX9_walk_59 (by decide) (fun _ => ?_) (fun _ => ?_)
  · refine g_aload_n C dX9_walk_66 0 rfl rfl ?_
    refine g_iconst C (2 : Int32) dX9_walk_67 rfl ?_
    refine g_callVi C cv_X9_error (ct_X9_error a0 (2 : Int32) h0 m0) q_990 h0 (by decide) rfl rfl (Nat.le_of_ble_eq_true rfl) dX9_walk_68 (fun r1 m2 => ?_)
    refine g_sub [] rfl ?_
    exact s_X9_walk_J71 C Rr r1 m2
  · refine g_iload_n C dX9_walk_62 2 rfl rfl ?_
    refine g_goto C 71 dX9_walk_63 (by decide) ?_
    refine g_sub [] rfl ?_
    exact s_X9_walk_J71 C Rr x3 m0
set_option maxHeartbeats 2000000 in
theorem s_X9_walk_L23B {K : KT}  (C : Cx K cX9_walk RX9 4 5) (Rr : Rx K (some .int))  {k23 : Nat → Int32 → Int32 → Int32 → Mem → Res} (hk23 : ∀ (a0 : Nat) (x1 : Int32) (x2 : Int32) (x3 : Int32) (h0 : tg a0 = 9) (m0 : Mem), G K 23 [(0, .ref (kf K a0)), (1, .int x1), (2, .int x2), (3, .int x3)] [] m0 (k23 a0 x1 x2 x3 m0)) (a0 : Nat) (x1 : Int32) (x2 : Int32) (x3 : Int32) (h0 : tg a0 = 9) (m0 : Mem) : G K 23 [(0, .ref (kf K a0)), (1, .int x1), (2, .int x2), (3, .int x3)] [] m0 (X9_walk_L23B k23 a0 x1 x2 x3 m0) := by
  unfold X9_walk_L23B
  refine g_iload_n C dX9_walk_23 2 rfl rfl ?_
  refine g_if_eq C 58 dX9_walk_24 (by decide) (fun _ => ?_) (fun _ => ?_)
  · refine g_sub [0, 2, 3] rfl ?_
    exact s_X9_walk_J58 C Rr a0 x2 x3 h0 m0
  · refine g_iload_n C dX9_walk_27 3 rfl rfl ?_
    refine g_aload_n C dX9_walk_28 0 rfl rfl ?_
    refine g_getr C 0 1 Fx9 h0 (by decide) rfl rfl q_919 dX9_walk_29 ?_
    refine g_iconst C (0 : Int32) dX9_walk_32 rfl ?_
    refine g_iald (n := 516) C (cl_9_0 h0) dX9_walk_33 (fun _ => ?_)
    refine g_icmp_ge C 58 dX9_walk_34 (by decide) (fun _ => ?_) (fun _ => ?_)
    · refine g_sub [0, 2, 3] rfl ?_
      exact s_X9_walk_J58 C Rr a0 x2 x3 h0 m0
    · refine g_iload_n C dX9_walk_37 2 rfl rfl ?_
      refine g_aload_n C dX9_walk_38 0 rfl rfl ?_
      refine g_aload_n C dX9_walk_39 0 rfl rfl ?_
      refine g_iload_n C dX9_walk_40 1 rfl rfl ?_
      refine g_iload_n C dX9_walk_41 3 rfl rfl ?_
      refine g_callVi C cv_X9_shopOn (ct_X9_shopOn a0 x1 x3 h0 m0) q_1206 h0 (by decide) rfl rfl (Nat.le_of_ble_eq_true rfl) dX9_walk_42 (fun r1 m2 => ?_)
      refine g_callVi C cv_X9_maySell (ct_X9_maySell a0 r1 h0 m2) q_1019 h0 (by decide) rfl rfl (Nat.le_of_ble_eq_true rfl) dX9_walk_45 (fun r3 m4 => ?_)
      refine g_iconst C (-1 : Int32) dX9_walk_48 rfl ?_
      refine g_ixor C dX9_walk_49 ?_
      refine g_iand C dX9_walk_50 ?_
      refine g_bnd (fun y5 => ?_)
      refine g_istore_n C dX9_walk_51 rfl (by decide) rfl ?_
      refine g_iinc (k := 3) C dX9_walk_52 rfl (w := (1 : Int32)) rfl (by decide) (fun v_ => [(3, .int v_), (2, .int y5), (0, .ref (kf K a0)), (1, .int x1)]) (fun _ => rfl) (fun y6 => ?_)
      refine g_goto C 23 dX9_walk_55 (by decide) ?_
      refine g_sub [2, 3, 1, 0] rfl ?_
      exact hk23 a0 x1 y5 y6 h0 m4
theorem s_X9_walk_L23 {K : KT}  (C : Cx K cX9_walk RX9 4 5) (Rr : Rx K (some .int))    : ∀ (n : Nat) (a0 : Nat) (x1 : Int32) (x2 : Int32) (x3 : Int32) (h0 : tg a0 = 9) (m0 : Mem), G K 23 [(0, .ref (kf K a0)), (1, .int x1), (2, .int x2), (3, .int x3)] [] m0 (X9_walk_L23 n a0 x1 x2 x3 m0) := by
  intro n
  induction n with
  | zero => intros; exact g_none
  | succ n ih =>
    intro a0 x1 x2 x3 h0 m0
    exact s_X9_walk_L23B C Rr  ih a0 x1 x2 x3 h0 m0
set_option maxHeartbeats 2000000 in
theorem s_X9_walk {K : KT}  (C : Cx K cX9_walk RX9 4 5) (Rr : Rx K (some .int))  (a0 : Nat) (x1 : Int32) (h0 : tg a0 = 9) (m0 : Mem) : G K 0 [(0, .ref (kf K a0)), (1, .int x1)] [] m0 (f_X9_walk a0 x1 m0) := by
  unfold f_X9_walk
  refine g_aload_n C dX9_walk_0 0 rfl rfl ?_
  refine g_iload_n C dX9_walk_1 1 rfl rfl ?_
  refine g_callVi C cv_X9_isCustomer (ct_X9_isCustomer a0 x1 h0 m0) q_1065 h0 (by decide) rfl rfl (Nat.le_of_ble_eq_true rfl) dX9_walk_2 (fun r1 m2 => ?_)
  refine g_if_ne C 14 dX9_walk_5 (by decide) (fun _ => ?_) (fun _ => ?_)
  · refine g_aload_n C dX9_walk_14 0 rfl rfl ?_
    refine g_iload_n C dX9_walk_15 1 rfl rfl ?_
    refine g_iconst C (0 : Int32) dX9_walk_16 rfl ?_
    refine g_callVi C cv_X9_of (ct_X9_of a0 x1 (0 : Int32) h0 m2) q_1069 h0 (by decide) rfl rfl (Nat.le_of_ble_eq_true rfl) dX9_walk_17 (fun r3 m4 => ?_)
    refine g_istore_n C dX9_walk_20 rfl (by decide) rfl ?_
    refine g_iconst C (0 : Int32) dX9_walk_21 rfl ?_
    refine g_istore_n C dX9_walk_22 rfl (by decide) rfl ?_
    refine g_sub [2, 3, 1, 0] rfl ?_
    exact s_X9_walk_L23 C Rr FU a0 x1 r3 (0 : Int32) h0 m4
  · refine g_aload_n C dX9_walk_8 0 rfl rfl ?_
    refine g_iconst C (1 : Int32) dX9_walk_9 rfl ?_
    refine g_callVi C cv_X9_error (ct_X9_error a0 (1 : Int32) h0 m2) q_990 h0 (by decide) rfl rfl (Nat.le_of_ble_eq_true rfl) dX9_walk_10 (fun r5 m6 => ?_)
    exact g_iret C Rr dX9_walk_13
theorem ct_X9_walk {Ω : OT} (a0 : Nat) (x1 : Int32) (h0 : tg a0 = 9) (m0 : Mem) : Ct Ω yX9_walk cX9_walk 4 (some .int) 5 [.ref (oF Ω a0), .int x1] m0 (f_X9_walk a0 x1 m0) := by
  refine Ct_of (by decide) (Nat.le_of_ble_eq_true rfl) ?_
  intro K hK C Rr
  subst hK
  exact s_X9_walk C Rr  a0 x1 h0 m0
def X9_begins_J29    (m0 : Mem) : Res :=
  some (0, m0)
def f_X9_begins  (a0 : Nat) (x1 : Int32) (m0 : Mem) : Res :=
  (if (30 : Int32) ≤ (m0 a0 13) then
  X9_begins_J29 m0
  else
  gd (inb (m0 a0 13) 30) (bnd (mset m0 (a0 + 8) (m0 a0 13).toNatClampNeg x1) (fun m1 =>
  bnd (mset m1 a0 13 ((m1 a0 13) + (1 : Int32))) (fun m2 =>
  X9_begins_J29 m2))))
set_option maxHeartbeats 2000000 in
theorem s_X9_begins_J29 {K : KT}  (C : Cx K cX9_begins RX9 2 1) (Rr : Rx K none)      (m0 : Mem) : G K 29 [] [] m0 (X9_begins_J29 m0) := by
  unfold X9_begins_J29
  exact g_vret C Rr dX9_begins_29
set_option maxHeartbeats 2000000 in
theorem s_X9_begins {K : KT}  (C : Cx K cX9_begins RX9 2 1) (Rr : Rx K none)  (a0 : Nat) (x1 : Int32) (h0 : tg a0 = 9) (m0 : Mem) : G K 0 [(0, .ref (kf K a0)), (1, .int x1)] [] m0 (f_X9_begins a0 x1 m0) := by
  unfold f_X9_begins
  refine g_aload_n C dX9_begins_0 0 rfl rfl ?_
  refine g_geti C 13 Fx9 h0 (by decide) rfl rfl q_932 dX9_begins_1 ?_
  refine g_bipush C (30 : Int32) dX9_begins_4 rfl ?_
  refine g_icmp_ge C 29 dX9_begins_6 (by decide) (fun _ => ?_) (fun _ => ?_)
  · refine g_sub [] rfl ?_
    exact s_X9_begins_J29 C Rr m0
  · refine g_aload_n C dX9_begins_9 0 rfl rfl ?_
    refine g_getr C 12 8 Fx9 h0 (by decide) rfl rfl q_931 dX9_begins_10 ?_
    refine g_aload_n C dX9_begins_13 0 rfl rfl ?_
    refine g_geti C 13 Fx9 h0 (by decide) rfl rfl q_932 dX9_begins_14 ?_
    refine g_iload_n C dX9_begins_17 1 rfl rfl ?_
    refine g_iast (n := 30) C (cl_9_12 h0) dX9_begins_18 (fun m1 => ?_)
    refine g_aload_n C dX9_begins_19 0 rfl rfl ?_
    refine g_dup C dX9_begins_20 rfl ?_
    refine g_geti C 13 Fx9 h0 (by decide) rfl rfl q_932 dX9_begins_21 ?_
    refine g_iconst C (1 : Int32) dX9_begins_24 rfl ?_
    refine g_iadd C dX9_begins_25 ?_
    refine g_puti C 13 Fx9 h0 (by decide) rfl rfl rfl rfl q_932 dX9_begins_26 (fun m2 => ?_)
    refine g_sub [] rfl ?_
    exact s_X9_begins_J29 C Rr m2
theorem ct_X9_begins {Ω : OT} (a0 : Nat) (x1 : Int32) (h0 : tg a0 = 9) (m0 : Mem) : Ct Ω yX9_begins cX9_begins 2 none 1 [.ref (oF Ω a0), .int x1] m0 (f_X9_begins a0 x1 m0) := by
  refine Ct_of (by decide) (Nat.le_of_ble_eq_true rfl) ?_
  intro K hK C Rr
  subst hK
  exact s_X9_begins C Rr  a0 x1 h0 m0
def X9_above_J19   (xs0 : Int32) (m0 : Mem) : Res :=
  some (xs0, m0)
def f_X9_above  (x0 : Int32) (m0 : Mem) : Res :=
  (if x0 = (4 : Int32) then
  X9_above_J19 (1 : Int32) m0
  else
  (if x0 = (5 : Int32) then
  X9_above_J19 (2 : Int32) m0
  else
  X9_above_J19 (0 : Int32) m0))
set_option maxHeartbeats 2000000 in
theorem s_X9_above_J19 {K : KT}  (C : Cx K cX9_above RX9 1 1) (Rr : Rx K (some .int))    (xs0 : Int32)  (m0 : Mem) : G K 19 [] [.int xs0] m0 (X9_above_J19 xs0 m0) := by
  unfold X9_above_J19
  exact g_iret C Rr dX9_above_19
set_option maxHeartbeats 2000000 in
theorem s_X9_above {K : KT}  (C : Cx K cX9_above RX9 1 1) (Rr : Rx K (some .int))  (x0 : Int32)  (m0 : Mem) : G K 0 [(0, .int x0)] [] m0 (f_X9_above x0 m0) := by
  unfold f_X9_above
  refine g_iload_n C dX9_above_0 0 rfl rfl ?_
  refine g_iconst C (4 : Int32) dX9_above_1 rfl ?_
  refine g_icmp_ne C 9 dX9_above_2 (by decide) (fun _ => ?_) (fun _ => ?_)
  · refine g_iload_n C dX9_above_9 0 rfl rfl ?_
    refine g_iconst C (5 : Int32) dX9_above_10 rfl ?_
    refine g_icmp_ne C 18 dX9_above_11 (by decide) (fun _ => ?_) (fun _ => ?_)
    · refine g_iconst C (0 : Int32) dX9_above_18 rfl ?_
      refine g_sub [] rfl ?_
      exact s_X9_above_J19 C Rr (0 : Int32) m0
    · refine g_iconst C (2 : Int32) dX9_above_14 rfl ?_
      refine g_goto C 19 dX9_above_15 (by decide) ?_
      refine g_sub [] rfl ?_
      exact s_X9_above_J19 C Rr (2 : Int32) m0
  · refine g_iconst C (1 : Int32) dX9_above_5 rfl ?_
    refine g_goto C 19 dX9_above_6 (by decide) ?_
    refine g_sub [] rfl ?_
    exact s_X9_above_J19 C Rr (1 : Int32) m0
theorem ct_X9_above {Ω : OT} (x0 : Int32)  (m0 : Mem) : Ct Ω yX9_above cX9_above 1 (some .int) 1 [.int x0] m0 (f_X9_above x0 m0) := by
  refine Ct_of (by decide) (Nat.le_of_ble_eq_true rfl) ?_
  intro K hK C Rr
  subst hK
  exact s_X9_above C Rr  x0 m0
def f_X9_kindNow  (a0 : Nat) (m0 : Mem) : Res :=
  cal (f_X9_its a0 (m0 a0 14) (0 : Int32) m0) (fun r1 m2 =>
  some (r1, m2))
set_option maxHeartbeats 2000000 in
theorem s_X9_kindNow {K : KT}  (C : Cx K cX9_kindNow RX9 1 2) (Rr : Rx K (some .int))  (a0 : Nat) (h0 : tg a0 = 9) (m0 : Mem) : G K 0 [(0, .ref (kf K a0))] [] m0 (f_X9_kindNow a0 m0) := by
  unfold f_X9_kindNow
  refine g_aload_n C dX9_kindNow_0 0 rfl rfl ?_
  refine g_aload_n C dX9_kindNow_1 0 rfl rfl ?_
  refine g_geti C 14 Fx9 h0 (by decide) rfl rfl q_933 dX9_kindNow_2 ?_
  refine g_iconst C (0 : Int32) dX9_kindNow_5 rfl ?_
  refine g_callVi C cv_X9_its (ct_X9_its a0 (m0 a0 14) (0 : Int32) h0 m0) q_1031 h0 (by decide) rfl rfl (Nat.le_of_ble_eq_true rfl) dX9_kindNow_6 (fun r1 m2 => ?_)
  exact g_iret C Rr dX9_kindNow_9
theorem ct_X9_kindNow {Ω : OT} (a0 : Nat) (h0 : tg a0 = 9) (m0 : Mem) : Ct Ω yX9_kindNow cX9_kindNow 1 (some .int) 2 [.ref (oF Ω a0)] m0 (f_X9_kindNow a0 m0) := by
  refine Ct_of (by decide) (Nat.le_of_ble_eq_true rfl) ?_
  intro K hK C Rr
  subst hK
  exact s_X9_kindNow C Rr  a0 h0 m0
def f_X9_mNow  (a0 : Nat) (m0 : Mem) : Res :=
  cal (f_X9_its a0 (m0 a0 14) (1 : Int32) m0) (fun r1 m2 =>
  some (r1, m2))
set_option maxHeartbeats 2000000 in
theorem s_X9_mNow {K : KT}  (C : Cx K cX9_mNow RX9 1 2) (Rr : Rx K (some .int))  (a0 : Nat) (h0 : tg a0 = 9) (m0 : Mem) : G K 0 [(0, .ref (kf K a0))] [] m0 (f_X9_mNow a0 m0) := by
  unfold f_X9_mNow
  refine g_aload_n C dX9_mNow_0 0 rfl rfl ?_
  refine g_aload_n C dX9_mNow_1 0 rfl rfl ?_
  refine g_geti C 14 Fx9 h0 (by decide) rfl rfl q_933 dX9_mNow_2 ?_
  refine g_iconst C (1 : Int32) dX9_mNow_5 rfl ?_
  refine g_callVi C cv_X9_its (ct_X9_its a0 (m0 a0 14) (1 : Int32) h0 m0) q_1031 h0 (by decide) rfl rfl (Nat.le_of_ble_eq_true rfl) dX9_mNow_6 (fun r1 m2 => ?_)
  exact g_iret C Rr dX9_mNow_9
theorem ct_X9_mNow {Ω : OT} (a0 : Nat) (h0 : tg a0 = 9) (m0 : Mem) : Ct Ω yX9_mNow cX9_mNow 1 (some .int) 2 [.ref (oF Ω a0)] m0 (f_X9_mNow a0 m0) := by
  refine Ct_of (by decide) (Nat.le_of_ble_eq_true rfl) ?_
  intro K hK C Rr
  subst hK
  exact s_X9_mNow C Rr  a0 h0 m0
def X9_sellsBy_J101 (R : Nat → Int32 → Int32 → Mem → Res)  (a0 : Nat) (x1 : Int32) (x2 : Int32) (m0 : Mem) : Res :=
  cal (f_X9_above x1 m0) (fun r1 m2 =>
  cal (R a0 r1 x2 m2) (fun r3 m4 =>
  some (r3, m4)))
def f_X9_sellsBy_B (R : Nat → Int32 → Int32 → Mem → Res) (a0 : Nat) (x1 : Int32) (x2 : Int32) (m0 : Mem) : Res :=
  (if x1 = (0 : Int32) then
  cal (f_X9_begins a0 (10 : Int32) m0) (fun r1 m2 =>
  some (x2 + (m2 a0 14), m2))
  else
  if x1 = (1 : Int32) then
  cal (f_X9_begins a0 (20 : Int32) m0) (fun r4 m5 =>
  cal (f_X9_above (1 : Int32) m5) (fun r6 m7 =>
  cal (R a0 r6 x2 m7) (fun r8 m9 =>
  some (r8 - (4 : Int32), m9))))
  else
  if x1 = (2 : Int32) then
  X9_sellsBy_J101 R a0 x1 x2 m0
  else
  if x1 = (3 : Int32) then
  X9_sellsBy_J101 R a0 x1 x2 m0
  else
  if x1 = (4 : Int32) then
  cal (f_X9_begins a0 (50 : Int32) m0) (fun r13 m14 =>
  cal (f_X9_above (4 : Int32) m14) (fun r15 m16 =>
  cal (R a0 r15 x2 m16) (fun r17 m18 =>
  some (r17 * (3 : Int32), m18))))
  else
  if x1 = (5 : Int32) then
  X9_sellsBy_J101 R a0 x1 x2 m0
  else
  if x1 = (6 : Int32) then
  cal (f_X9_begins a0 (70 : Int32) m0) (fun r21 m22 =>
  some ((2 : Int32), m22))
  else
  X9_sellsBy_J101 R a0 x1 x2 m0)
def f_X9_sellsBy : Nat → Nat → Int32 → Int32 → Mem → Res
  | 0 => fun _ _ _ _ => none
  | n + 1 => f_X9_sellsBy_B (f_X9_sellsBy n)
set_option maxHeartbeats 2000000 in
theorem s_X9_sellsBy_J101 {K : KT} {R : Nat → Int32 → Int32 → Mem → Res} {dR : Nat} (C : Cx K cX9_sellsBy RX9 3 (dR + 1)) (Rr : Rx K (some .int)) (hR : ∀ (a0 : Nat) (x1 : Int32) (x2 : Int32) (h0 : tg a0 = 9) (m0 : Mem), Ct (kO K) yX9_sellsBy cX9_sellsBy 3 (some .int) dR [.ref (oF (kO K) a0), .int x1, .int x2] m0 (R a0 x1 x2 m0)) (hd : 8 ≤ dR)   (a0 : Nat) (x1 : Int32) (x2 : Int32) (h0 : tg a0 = 9) (m0 : Mem) : G K 101 [(0, .ref (kf K a0)), (1, .int x1), (2, .int x2)] [] m0 (X9_sellsBy_J101 R a0 x1 x2 m0) := by
  unfold X9_sellsBy_J101
  refine g_aload_n C dX9_sellsBy_101 0 rfl rfl ?_
  refine g_iload_n C dX9_sellsBy_102 1 rfl rfl ?_
  refine g_callSi C cv_X9_above q_1302 (ct_X9_above x1  m0) q_1301 (by omega) rfl rfl (Nat.le_of_ble_eq_true rfl) dX9_sellsBy_103 (fun r1 m2 => ?_)
  refine g_iload_n C dX9_sellsBy_106 2 rfl rfl ?_
  refine g_callVi C cv_X9_sellsBy (hR a0 r1 x2 h0 m2) q_1293 h0 (by omega) rfl rfl (Nat.le_of_ble_eq_true rfl) dX9_sellsBy_107 (fun r3 m4 => ?_)
  exact g_iret C Rr dX9_sellsBy_110
set_option maxHeartbeats 2000000 in
theorem s_X9_sellsBy_B {K : KT} {R : Nat → Int32 → Int32 → Mem → Res} {dR : Nat} (C : Cx K cX9_sellsBy RX9 3 (dR + 1)) (Rr : Rx K (some .int)) (hR : ∀ (a0 : Nat) (x1 : Int32) (x2 : Int32) (h0 : tg a0 = 9) (m0 : Mem), Ct (kO K) yX9_sellsBy cX9_sellsBy 3 (some .int) dR [.ref (oF (kO K) a0), .int x1, .int x2] m0 (R a0 x1 x2 m0)) (hd : 8 ≤ dR) (a0 : Nat) (x1 : Int32) (x2 : Int32) (h0 : tg a0 = 9) (m0 : Mem) : G K 0 [(0, .ref (kf K a0)), (1, .int x1), (2, .int x2)] [] m0 (f_X9_sellsBy_B R a0 x1 x2 m0) := by
  unfold f_X9_sellsBy_B
  refine g_iload_n C dX9_sellsBy_0 1 rfl rfl ?_
  refine g_tsw C 44 dX9_sellsBy_1 (by decide) rfl (by decide) ?_ (fun e3 => ?_)
  · refine g_aload_n C dX9_sellsBy_44 0 rfl rfl ?_
    refine g_bipush C (10 : Int32) dX9_sellsBy_45 rfl ?_
    refine g_callVv C cv_X9_begins (ct_X9_begins a0 (10 : Int32) h0 m0) q_1297 h0 (by omega) rfl rfl (Nat.le_of_ble_eq_true rfl) dX9_sellsBy_47 (fun r1 m2 => ?_)
    refine g_iload_n C dX9_sellsBy_50 2 rfl rfl ?_
    refine g_aload_n C dX9_sellsBy_51 0 rfl rfl ?_
    refine g_geti C 14 Fx9 h0 (by decide) rfl rfl q_933 dX9_sellsBy_52 ?_
    refine g_iadd C dX9_sellsBy_55 ?_
    exact g_iret C Rr dX9_sellsBy_56
  refine g_tsw C 57 dX9_sellsBy_1 (by decide) rfl (by decide) ?_ (fun e10 => ?_)
  · refine g_aload_n C dX9_sellsBy_57 0 rfl rfl ?_
    refine g_bipush C (20 : Int32) dX9_sellsBy_58 rfl ?_
    refine g_callVv C cv_X9_begins (ct_X9_begins a0 (20 : Int32) h0 m0) q_1297 h0 (by omega) rfl rfl (Nat.le_of_ble_eq_true rfl) dX9_sellsBy_60 (fun r4 m5 => ?_)
    refine g_aload_n C dX9_sellsBy_63 0 rfl rfl ?_
    refine g_iconst C (1 : Int32) dX9_sellsBy_64 rfl ?_
    refine g_callSi C cv_X9_above q_1302 (ct_X9_above (1 : Int32)  m5) q_1301 (by omega) rfl rfl (Nat.le_of_ble_eq_true rfl) dX9_sellsBy_65 (fun r6 m7 => ?_)
    refine g_iload_n C dX9_sellsBy_68 2 rfl rfl ?_
    refine g_callVi C cv_X9_sellsBy (hR a0 r6 x2 h0 m7) q_1293 h0 (by omega) rfl rfl (Nat.le_of_ble_eq_true rfl) dX9_sellsBy_69 (fun r8 m9 => ?_)
    refine g_iconst C (4 : Int32) dX9_sellsBy_72 rfl ?_
    refine g_isub C dX9_sellsBy_73 ?_
    exact g_iret C Rr dX9_sellsBy_74
  refine g_tsw C 101 dX9_sellsBy_1 (by decide) rfl (by decide) ?_ (fun e11 => ?_)
  · refine g_sub [0, 1, 2] rfl ?_
    exact s_X9_sellsBy_J101 C Rr hR hd a0 x1 x2 h0 m0
  refine g_tsw C 101 dX9_sellsBy_1 (by decide) rfl (by decide) ?_ (fun e12 => ?_)
  · refine g_sub [0, 1, 2] rfl ?_
    exact s_X9_sellsBy_J101 C Rr hR hd a0 x1 x2 h0 m0
  refine g_tsw C 75 dX9_sellsBy_1 (by decide) rfl (by decide) ?_ (fun e19 => ?_)
  · refine g_aload_n C dX9_sellsBy_75 0 rfl rfl ?_
    refine g_bipush C (50 : Int32) dX9_sellsBy_76 rfl ?_
    refine g_callVv C cv_X9_begins (ct_X9_begins a0 (50 : Int32) h0 m0) q_1297 h0 (by omega) rfl rfl (Nat.le_of_ble_eq_true rfl) dX9_sellsBy_78 (fun r13 m14 => ?_)
    refine g_aload_n C dX9_sellsBy_81 0 rfl rfl ?_
    refine g_iconst C (4 : Int32) dX9_sellsBy_82 rfl ?_
    refine g_callSi C cv_X9_above q_1302 (ct_X9_above (4 : Int32)  m14) q_1301 (by omega) rfl rfl (Nat.le_of_ble_eq_true rfl) dX9_sellsBy_83 (fun r15 m16 => ?_)
    refine g_iload_n C dX9_sellsBy_86 2 rfl rfl ?_
    refine g_callVi C cv_X9_sellsBy (hR a0 r15 x2 h0 m16) q_1293 h0 (by omega) rfl rfl (Nat.le_of_ble_eq_true rfl) dX9_sellsBy_87 (fun r17 m18 => ?_)
    refine g_iconst C (3 : Int32) dX9_sellsBy_90 rfl ?_
    refine g_imul C dX9_sellsBy_91 ?_
    exact g_iret C Rr dX9_sellsBy_92
  refine g_tsw C 101 dX9_sellsBy_1 (by decide) rfl (by decide) ?_ (fun e20 => ?_)
  · refine g_sub [0, 1, 2] rfl ?_
    exact s_X9_sellsBy_J101 C Rr hR hd a0 x1 x2 h0 m0
  refine g_tsw C 93 dX9_sellsBy_1 (by decide) rfl (by decide) ?_ (fun e23 => ?_)
  · refine g_aload_n C dX9_sellsBy_93 0 rfl rfl ?_
    refine g_bipush C (70 : Int32) dX9_sellsBy_94 rfl ?_
    refine g_callVv C cv_X9_begins (ct_X9_begins a0 (70 : Int32) h0 m0) q_1297 h0 (by omega) rfl rfl (Nat.le_of_ble_eq_true rfl) dX9_sellsBy_96 (fun r21 m22 => ?_)
    refine g_iconst C (2 : Int32) dX9_sellsBy_99 rfl ?_
    exact g_iret C Rr dX9_sellsBy_100
  refine g_tswd C 101 dX9_sellsBy_1 (sw_out [(0 : Int32), (1 : Int32), (2 : Int32), (3 : Int32), (4 : Int32), (5 : Int32), (6 : Int32)] (by intro v hv; simp only [List.mem_cons, List.not_mem_nil, or_false] at hv; rcases hv with rfl | rfl | rfl | rfl | rfl | rfl | rfl <;> assumption) (fun i h1 h2 => by have hi : i = 0 ∨ i = 1 ∨ i = 2 ∨ i = 3 ∨ i = 4 ∨ i = 5 ∨ i = 6 := (by omega); rcases hi with rfl | rfl | rfl | rfl | rfl | rfl | rfl <;> simp)) (by decide) ?_
  refine g_sub [0, 1, 2] rfl ?_
  exact s_X9_sellsBy_J101 C Rr hR hd a0 x1 x2 h0 m0
theorem ct_X9_sellsBy {Ω : OT} : ∀ (n : Nat) (a0 : Nat) (x1 : Int32) (x2 : Int32) (h0 : tg a0 = 9) (m0 : Mem), Ct Ω yX9_sellsBy cX9_sellsBy 3 (some .int) (8 + 1 * n) [.ref (oF Ω a0), .int x1, .int x2] m0 (f_X9_sellsBy n a0 x1 x2 m0) := by
  intro n
  induction n with
  | zero => intros; intro r μ' h; cases h
  | succ n ih =>
    intro a0 x1 x2 h0 m0
    refine Ct_of (by decide) (Nat.le_of_ble_eq_true rfl) ?_
    intro K hK C Rr
    subst hK
    exact s_X9_sellsBy_B (dR := 8 + 1 * n) C Rr ih (by omega) a0 x1 x2 h0 m0
