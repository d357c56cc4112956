def f_J6_bitCount_0f7a4  (x0 : Int32) (m0 : Mem) : Res :=
  bnd (x0 - ((iur x0 (1 : Int32)) &&& (1431655765 : Int32))) (fun y1 =>
  bnd ((y1 &&& (858993459 : Int32)) + ((iur y1 (2 : Int32)) &&& (858993459 : Int32))) (fun y2 =>
  bnd ((y2 + (iur y2 (4 : Int32))) &&& (252645135 : Int32)) (fun y3 =>
  bnd (y3 + (iur y3 (8 : Int32))) (fun y4 =>
  bnd (y4 + (iur y4 (16 : Int32))) (fun y5 =>
  some (y5 &&& (63 : Int32), m0))))))
set_option maxHeartbeats 2000000 in
theorem s_J6_bitCount_0f7a4 {K : KT}  (C : Cx K cJ6_bitCount_0f7a4 RJ6 1 1) (Rr : Rx K (some .int))  (x0 : Int32)  (m0 : Mem) : G K 0 [(0, .int x0)] [] m0 (f_J6_bitCount_0f7a4 x0 m0) := by
  unfold f_J6_bitCount_0f7a4
  refine g_iload_n C dJ6_bitCount_0f7a4_0 0 rfl rfl ?_
  refine g_iload_n C dJ6_bitCount_0f7a4_1 0 rfl rfl ?_
  refine g_iconst C (1 : Int32) dJ6_bitCount_0f7a4_2 rfl ?_
  refine g_iushr C dJ6_bitCount_0f7a4_3 ?_
  refine g_ldcw (v := (1431655765 : Int32)) C q_699 dJ6_bitCount_0f7a4_4 ?_
  refine g_iand C dJ6_bitCount_0f7a4_7 ?_
  refine g_isub C dJ6_bitCount_0f7a4_8 ?_
  refine g_bnd (fun y1 => ?_)
  refine g_istore_n C dJ6_bitCount_0f7a4_9 rfl (by decide) rfl ?_
  refine g_iload_n C dJ6_bitCount_0f7a4_10 0 rfl rfl ?_
  refine g_ldcw (v := (858993459 : Int32)) C q_700 dJ6_bitCount_0f7a4_11 ?_
  refine g_iand C dJ6_bitCount_0f7a4_14 ?_
  refine g_iload_n C dJ6_bitCount_0f7a4_15 0 rfl rfl ?_
  refine g_iconst C (2 : Int32) dJ6_bitCount_0f7a4_16 rfl ?_
  refine g_iushr C dJ6_bitCount_0f7a4_17 ?_
  refine g_ldcw (v := (858993459 : Int32)) C q_700 dJ6_bitCount_0f7a4_18 ?_
  refine g_iand C dJ6_bitCount_0f7a4_21 ?_
  refine g_iadd C dJ6_bitCount_0f7a4_22 ?_
  refine g_bnd (fun y2 => ?_)
  refine g_istore_n C dJ6_bitCount_0f7a4_23 rfl (by decide) rfl ?_
  refine g_iload_n C dJ6_bitCount_0f7a4_24 0 rfl rfl ?_
  refine g_iload_n C dJ6_bitCount_0f7a4_25 0 rfl rfl ?_
  refine g_iconst C (4 : Int32) dJ6_bitCount_0f7a4_26 rfl ?_
  refine g_iushr C dJ6_bitCount_0f7a4_27 ?_
  refine g_iadd C dJ6_bitCount_0f7a4_28 ?_
  refine g_ldcw (v := (252645135 : Int32)) C q_701 dJ6_bitCount_0f7a4_29 ?_
  refine g_iand C dJ6_bitCount_0f7a4_32 ?_
  refine g_bnd (fun y3 => ?_)
  refine g_istore_n C dJ6_bitCount_0f7a4_33 rfl (by decide) rfl ?_
  refine g_iload_n C dJ6_bitCount_0f7a4_34 0 rfl rfl ?_
  refine g_iload_n C dJ6_bitCount_0f7a4_35 0 rfl rfl ?_
  refine g_bipush C (8 : Int32) dJ6_bitCount_0f7a4_36 rfl ?_
  refine g_iushr C dJ6_bitCount_0f7a4_38 ?_
  refine g_iadd C dJ6_bitCount_0f7a4_39 ?_
  refine g_bnd (fun y4 => ?_)
  refine g_istore_n C dJ6_bitCount_0f7a4_40 rfl (by decide) rfl ?_
  refine g_iload_n C dJ6_bitCount_0f7a4_41 0 rfl rfl ?_
  refine g_iload_n C dJ6_bitCount_0f7a4_42 0 rfl rfl ?_
  refine g_bipush C (16 : Int32) dJ6_bitCount_0f7a4_43 rfl ?_
  refine g_iushr C dJ6_bitCount_0f7a4_45 ?_
  refine g_iadd C dJ6_bitCount_0f7a4_46 ?_
  refine g_bnd (fun y5 => ?_)
  refine g_istore_n C dJ6_bitCount_0f7a4_47 rfl (by decide) rfl ?_
  refine g_iload_n C dJ6_bitCount_0f7a4_48 0 rfl rfl ?_
  refine g_bipush C (63 : Int32) dJ6_bitCount_0f7a4_49 rfl ?_
  refine g_iand C dJ6_bitCount_0f7a4_51 ?_
  exact g_iret C Rr dJ6_bitCount_0f7a4_52
theorem ct_J6_bitCount_0f7a4 {Ω : OT} (x0 : Int32)  (m0 : Mem) : Ct Ω yJ6_bitCount_0f7a4 cJ6_bitCount_0f7a4 1 (some .int) 1 [.int x0] m0 (f_J6_bitCount_0f7a4 x0 m0) := by
  refine Ct_of (by decide) (Nat.le_of_ble_eq_true rfl) ?_
  intro K hK C Rr
  subst hK
  exact s_J6_bitCount_0f7a4 C Rr  x0 m0
def f_X7_draw  (a0 : Nat) (m0 : Mem) : Res :=
  bnd (mset m0 a0 9 (((m0 a0 9) * (1103515245 : Int32)) + (12345 : Int32))) (fun m1 =>
  some (iur (m1 a0 9) (8 : Int32), m1))
set_option maxHeartbeats 2000000 in
theorem s_X7_draw {K : KT}  (C : Cx K cX7_draw RX7 1 1) (Rr : Rx K (some .int))  (a0 : Nat) (h0 : tg a0 = 7) (m0 : Mem) : G K 0 [(0, .ref (kf K a0))] [] m0 (f_X7_draw a0 m0) := by
  unfold f_X7_draw
  refine g_aload_n C dX7_draw_0 0 rfl rfl ?_
  refine g_aload_n C dX7_draw_1 0 rfl rfl ?_
  refine g_geti C 9 Fx7 h0 (by decide) rfl rfl q_145 dX7_draw_2 ?_
  refine g_ldc (v := (1103515245 : Int32)) C q_694 dX7_draw_5 ?_
  refine g_imul C dX7_draw_7 ?_
  refine g_sipush C (12345 : Int32) dX7_draw_8 rfl ?_
  refine g_iadd C dX7_draw_11 ?_
  refine g_puti C 9 Fx7 h0 (by decide) rfl rfl rfl rfl q_145 dX7_draw_12 (fun m1 => ?_)
  refine g_aload_n C dX7_draw_15 0 rfl rfl ?_
  refine g_geti C 9 Fx7 h0 (by decide) rfl rfl q_145 dX7_draw_16 ?_
  refine g_bipush C (8 : Int32) dX7_draw_19 rfl ?_
  refine g_iushr C dX7_draw_21 ?_
  exact g_iret C Rr dX7_draw_22
theorem ct_X7_draw {Ω : OT} (a0 : Nat) (h0 : tg a0 = 7) (m0 : Mem) : Ct Ω yX7_draw cX7_draw 1 (some .int) 1 [.ref (oF Ω a0)] m0 (f_X7_draw a0 m0) := by
  refine Ct_of (by decide) (Nat.le_of_ble_eq_true rfl) ?_
  intro K hK C Rr
  subst hK
  exact s_X7_draw C Rr  a0 h0 m0
def X7_pass_J59  (k2 : Nat → Int32 → Int32 → Int32 → Mem → Res) (k19 : Nat → Int32 → Int32 → Int32 → Int32 → Mem → Res) (a0 : Nat) (x1 : Int32) (x2 : Int32) (x3 : Int32) (x4 : Int32) (m0 : Mem) : Res :=
  bnd (x4 + (1 : Int32)) (fun y1 =>
  k19 a0 x1 x2 x3 y1 m0)
def X7_pass_J41  (k2 : Nat → Int32 → Int32 → Int32 → Mem → Res) (k19 : Nat → Int32 → Int32 → Int32 → Int32 → Mem → Res) (a0 : Nat) (x1 : Int32) (x2 : Int32) (x3 : Int32) (x4 : Int32) (m0 : Mem) : Res :=
  cal (f_X7_goAlong a0 x4 m0) (fun r1 m2 =>
  cal (f_J6_bitCount_0f7a4 r1 m2) (fun r3 m4 =>
  bnd (mset m4 a0 8 ((m0 a0 8) + r3)) (fun m5 =>
  X7_pass_J59 k2 k19 a0 x1 x2 x3 x4 m5)))
def X7_pass_L19B  (k2 : Nat → Int32 → Int32 → Int32 → Mem → Res) (k19 : Nat → Int32 → Int32 → Int32 → Int32 → Mem → Res) (a0 : Nat) (x1 : Int32) (x2 : Int32) (x3 : Int32) (x4 : Int32) (m0 : Mem) : Res :=
  (if (m0 a0 6) ≤ x4 then
  bnd (mset m0 a0 7 ((m0 a0 7) + (1 : Int32))) (fun m1 =>
  bnd (x3 + (1 : Int32)) (fun y2 =>
  k2 a0 x1 x2 y2 m1))
  else
  (if x2 = 0 then
  X7_pass_J41 k2 k19 a0 x1 x2 x3 x4 m0
  else
  cal (f_X7_draw a0 m0) (fun r3 m4 =>
  gd (!((4 : Int32) == 0)) (
  (if (irm r3 (4 : Int32)) = 0 then
  X7_pass_J59 k2 k19 a0 x1 x2 x3 x4 m4
  else
  X7_pass_J41 k2 k19 a0 x1 x2 x3 x4 m4)))))
def X7_pass_L19  (k2 : Nat → Int32 → Int32 → Int32 → Mem → Res) : Nat → Nat → Int32 → Int32 → Int32 → Int32 → Mem → Res
  | 0 => fun _ _ _ _ _ _ => none
  | n + 1 => X7_pass_L19B k2 (X7_pass_L19 k2 n)
def X7_pass_L2B  (k2 : Nat → Int32 → Int32 → Int32 → Mem → Res) (a0 : Nat) (x1 : Int32) (x2 : Int32) (x3 : Int32) (m0 : Mem) : Res :=
  (if x1 ≤ x3 then
  some (0, m0)
  else
  cal (f_X7_passMorning a0 m0) (fun r1 m2 =>
  bnd (mset m2 a0 8 (0 : Int32)) (fun m3 =>
  X7_pass_L19 k2 FU a0 x1 x2 x3 (0 : Int32) m3)))
def X7_pass_L2   : Nat → Nat → Int32 → Int32 → Int32 → Mem → Res
  | 0 => fun _ _ _ _ _ => none
  | n + 1 => X7_pass_L2B (X7_pass_L2 n)
def f_X7_pass  (a0 : Nat) (x1 : Int32) (x2 : Int32) (m0 : Mem) : Res :=
  X7_pass_L2 FU a0 x1 x2 (0 : Int32) m0
set_option maxHeartbeats 2000000 in
theorem s_X7_pass_J59 {K : KT}  (C : Cx K cX7_pass RX7 5 6) (Rr : Rx K none)  {k2 : Nat → Int32 → Int32 → Int32 → Mem → Res} {k19 : Nat → Int32 → Int32 → Int32 → Int32 → Mem → Res} (hk2 : ∀ (a0 : Nat) (x1 : Int32) (x2 : Int32) (x3 : Int32) (h0 : tg a0 = 7) (m0 : Mem), G K 2 [(0, .ref (kf K a0)), (1, .int x1), (2, .int x2), (3, .int x3)] [] m0 (k2 a0 x1 x2 x3 m0)) (hk19 : ∀ (a0 : Nat) (x1 : Int32) (x2 : Int32) (x3 : Int32) (x4 : Int32) (h0 : tg a0 = 7) (m0 : Mem), G K 19 [(0, .ref (kf K a0)), (1, .int x1), (2, .int x2), (3, .int x3), (4, .int x4)] [] m0 (k19 a0 x1 x2 x3 x4 m0)) (a0 : Nat) (x1 : Int32) (x2 : Int32) (x3 : Int32) (x4 : Int32) (h0 : tg a0 = 7) (m0 : Mem) : G K 59 [(0, .ref (kf K a0)), (1, .int x1), (2, .int x2), (3, .int x3), (4, .int x4)] [] m0 (X7_pass_J59 k2 k19 a0 x1 x2 x3 x4 m0) := by
  unfold X7_pass_J59
  refine g_iinc (k := 4) C dX7_pass_59 rfl (w := (1 : Int32)) rfl (by decide) (fun v_ => [(4, .int v_), (0, .ref (kf K a0)), (1, .int x1), (2, .int x2), (3, .int x3)]) (fun _ => rfl) (fun y1 => ?_)
  refine g_goto C 19 dX7_pass_62 (by decide) ?_
  refine g_sub [1, 2, 3, 4, 0] rfl ?_
  exact hk19 a0 x1 x2 x3 y1 h0 m0
set_option maxHeartbeats 2000000 in
theorem s_X7_pass_J41 {K : KT}  (C : Cx K cX7_pass RX7 5 6) (Rr : Rx K none)  {k2 : Nat → Int32 → Int32 → Int32 → Mem → Res} {k19 : Nat → Int32 → Int32 → Int32 → Int32 → Mem → Res} (hk2 : ∀ (a0 : Nat) (x1 : Int32) (x2 : Int32) (x3 : Int32) (h0 : tg a0 = 7) (m0 : Mem), G K 2 [(0, .ref (kf K a0)), (1, .int x1), (2, .int x2), (3, .int x3)] [] m0 (k2 a0 x1 x2 x3 m0)) (hk19 : ∀ (a0 : Nat) (x1 : Int32) (x2 : Int32) (x3 : Int32) (x4 : Int32) (h0 : tg a0 = 7) (m0 : Mem), G K 19 [(0, .ref (kf K a0)), (1, .int x1), (2, .int x2), (3, .int x3), (4, .int x4)] [] m0 (k19 a0 x1 x2 x3 x4 m0)) (a0 : Nat) (x1 : Int32) (x2 : Int32) (x3 : Int32) (x4 : Int32) (h0 : tg a0 = 7) (m0 : Mem) : G K 41 [(0, .ref (kf K a0)), (1, .int x1), (2, .int x2), (3, .int x3), (4, .int x4)] [] m0 (X7_pass_J41 k2 k19 a0 x1 x2 x3 x4 m0) := by
  unfold X7_pass_J41
  refine g_aload_n C dX7_pass_41 0 rfl rfl ?_
  refine g_dup C dX7_pass_42 rfl ?_
  refine g_geti C 8 Fx7 h0 (by decide) rfl rfl q_143 dX7_pass_43 ?_
  refine g_aload_n C dX7_pass_46 0 rfl rfl ?_
  refine g_iload C dX7_pass_47 4 rfl ?_
  refine g_callVi C cv_X7_goAlong (ct_X7_goAlong a0 x4 h0 m0) q_695 h0 (by decide) rfl rfl (Nat.le_of_ble_eq_true rfl) dX7_pass_49 (fun r1 m2 => ?_)
  refine g_callSi C cv_J6_bitCount_0f7a4 q_697 (ct_J6_bitCount_0f7a4 r1  m2) q_696 (by decide) rfl rfl (Nat.le_of_ble_eq_true rfl) dX7_pass_52 (fun r3 m4 => ?_)
  refine g_iadd C dX7_pass_55 ?_
  refine g_puti C 8 Fx7 h0 (by decide) rfl rfl rfl rfl q_143 dX7_pass_56 (fun m5 => ?_)
  refine g_sub [0, 1, 2, 3, 4] rfl ?_
  exact s_X7_pass_J59 C Rr hk2 hk19 a0 x1 x2 x3 x4 h0 m5
set_option maxHeartbeats 2000000 in
theorem s_X7_pass_L19B {K : KT}  (C : Cx K cX7_pass RX7 5 6) (Rr : Rx K none)  {k2 : Nat → Int32 → Int32 → Int32 → Mem → Res} {k19 : Nat → Int32 → Int32 → Int32 → Int32 → Mem → Res} (hk2 : ∀ (a0 : Nat) (x1 : Int32) (x2 : Int32) (x3 : Int32) (h0 : tg a0 = 7) (m0 : Mem), G K 2 [(0, .ref (kf K a0)), (1, .int x1), (2, .int x2), (3, .int x3)] [] m0 (k2 a0 x1 x2 x3 m0)) (hk19 : ∀ (a0 : Nat) (x1 : Int32) (x2 : Int32) (x3 : Int32) (x4 : Int32) (h0 : tg a0 = 7) (m0 : Mem), G K 19 [(0, .ref (kf K a0)), (1, .int x1), (2, .int x2), (3, .int x3), (4, .int x4)] [] m0 (k19 a0 x1 x2 x3 x4 m0)) (a0 : Nat) (x1 : Int32) (x2 : Int32) (x3 : Int32) (x4 : Int32) (h0 : tg a0 = 7) (m0 : Mem) : G K 19 [(0, .ref (kf K a0)), (1, .int x1), (2, .int x2), (3, .int x3), (4, .int x4)] [] m0 (X7_pass_L19B k2 k19 a0 x1 x2 x3 x4 m0) := by
  unfold X7_pass_L19B
  refine g_iload C dX7_pass_19 4 rfl ?_
  refine g_aload_n C dX7_pass_21 0 rfl rfl ?_
  refine g_geti C 6 Fx7 h0 (by decide) rfl rfl q_139 dX7_pass_22 ?_
  refine g_icmp_ge C 65 dX7_pass_25 (by decide) (fun _ => ?_) (fun _ => ?_)
  · refine g_aload_n C dX7_pass_65 0 rfl rfl ?_
    refine g_dup C dX7_pass_66 rfl ?_
    refine g_geti C 7 Fx7 h0 (by decide) rfl rfl q_141 dX7_pass_67 ?_
    refine g_iconst C (1 : Int32) dX7_pass_70 rfl ?_
    refine g_iadd C dX7_pass_71 ?_
    refine g_puti C 7 Fx7 h0 (by decide) rfl rfl rfl rfl q_141 dX7_pass_72 (fun m1 => ?_)
    refine g_iinc (k := 3) C dX7_pass_75 rfl (w := (1 : Int32)) rfl (by decide) (fun v_ => [(3, .int v_), (0, .ref (kf K a0)), (1, .int x1), (2, .int x2), (4, .int x4)]) (fun _ => rfl) (fun y2 => ?_)
    refine g_goto C 2 dX7_pass_78 (by decide) ?_
    refine g_sub [1, 2, 3, 0] rfl ?_
    exact hk2 a0 x1 x2 y2 h0 m1
  · refine g_iload_n C dX7_pass_28 2 rfl rfl ?_
    refine g_if_eq C 41 dX7_pass_29 (by decide) (fun _ => ?_) (fun _ => ?_)
    · refine g_sub [0, 1, 2, 3, 4] rfl ?_
      exact s_X7_pass_J41 C Rr hk2 hk19 a0 x1 x2 x3 x4 h0 m0
    · refine g_aload_n C dX7_pass_32 0 rfl rfl ?_
      refine g_callVi C cv_X7_draw (ct_X7_draw a0 h0 m0) q_690 h0 (by decide) rfl rfl (Nat.le_of_ble_eq_true rfl) dX7_pass_33 (fun r3 m4 => ?_)
      refine g_iconst C (4 : Int32) dX7_pass_36 rfl ?_
      refine g_irem C dX7_pass_37 (fun _ => ?_)
      refine g_if_eq C 59 dX7_pass_38 (by decide) (fun _ => ?_) (fun _ => ?_)
      · refine g_sub [0, 1, 2, 3, 4] rfl ?_
        exact s_X7_pass_J59 C Rr hk2 hk19 a0 x1 x2 x3 x4 h0 m4
      · refine g_sub [0, 1, 2, 3, 4] rfl ?_
        exact s_X7_pass_J41 C Rr hk2 hk19 a0 x1 x2 x3 x4 h0 m4
theorem s_X7_pass_L19 {K : KT}  (C : Cx K cX7_pass RX7 5 6) (Rr : Rx K none)  {k2 : Nat → Int32 → Int32 → Int32 → Mem → Res} (hk2 : ∀ (a0 : Nat) (x1 : Int32) (x2 : Int32) (x3 : Int32) (h0 : tg a0 = 7) (m0 : Mem), G K 2 [(0, .ref (kf K a0)), (1, .int x1), (2, .int x2), (3, .int x3)] [] m0 (k2 a0 x1 x2 x3 m0)) : ∀ (n : Nat) (a0 : Nat) (x1 : Int32) (x2 : Int32) (x3 : Int32) (x4 : Int32) (h0 : tg a0 = 7) (m0 : Mem), G K 19 [(0, .ref (kf K a0)), (1, .int x1), (2, .int x2), (3, .int x3), (4, .int x4)] [] m0 (X7_pass_L19 k2 n a0 x1 x2 x3 x4 m0) := by
  intro n
  induction n with
  | zero => intros; exact g_none
  | succ n ih =>
    intro a0 x1 x2 x3 x4 h0 m0
    exact s_X7_pass_L19B C Rr hk2 ih a0 x1 x2 x3 x4 h0 m0
set_option maxHeartbeats 2000000 in
theorem s_X7_pass_L2B {K : KT}  (C : Cx K cX7_pass RX7 5 6) (Rr : Rx K none)  {k2 : Nat → Int32 → Int32 → Int32 → Mem → Res} (hk2 : ∀ (a0 : Nat) (x1 : Int32) (x2 : Int32) (x3 : Int32) (h0 : tg a0 = 7) (m0 : Mem), G K 2 [(0, .ref (kf K a0)), (1, .int x1), (2, .int x2), (3, .int x3)] [] m0 (k2 a0 x1 x2 x3 m0)) (a0 : Nat) (x1 : Int32) (x2 : Int32) (x3 : Int32) (h0 : tg a0 = 7) (m0 : Mem) : G K 2 [(0, .ref (kf K a0)), (1, .int x1), (2, .int x2), (3, .int x3)] [] m0 (X7_pass_L2B k2 a0 x1 x2 x3 m0) := by
  unfold X7_pass_L2B
  refine g_iload_n C dX7_pass_2 3 rfl rfl ?_
  refine g_iload_n C dX7_pass_3 1 rfl rfl ?_
  refine g_icmp_ge C 81 dX7_pass_4 (by decide) (fun _ => ?_) (fun _ => ?_)
  · exact g_vret C Rr dX7_pass_81
  · refine g_aload_n C dX7_pass_7 0 rfl rfl ?_
    refine g_callVv C cv_X7_passMorning (ct_X7_passMorning a0 h0 m0) q_689 h0 (by decide) rfl rfl (Nat.le_of_ble_eq_true rfl) dX7_pass_8 (fun r1 m2 => ?_)
    refine g_aload_n C dX7_pass_11 0 rfl rfl ?_
    refine g_iconst C (0 : Int32) dX7_pass_12 rfl ?_
    refine g_puti C 8 Fx7 h0 (by decide) rfl rfl rfl rfl q_143 dX7_pass_13 (fun m3 => ?_)
    refine g_iconst C (0 : Int32) dX7_pass_16 rfl ?_
    refine g_istore C dX7_pass_17 (by decide) rfl ?_
    refine g_sub [1, 2, 3, 4, 0] rfl ?_
    exact s_X7_pass_L19 C Rr hk2 FU a0 x1 x2 x3 (0 : Int32) h0 m3
theorem s_X7_pass_L2 {K : KT}  (C : Cx K cX7_pass RX7 5 6) (Rr : Rx K none)    : ∀ (n : Nat) (a0 : Nat) (x1 : Int32) (x2 : Int32) (x3 : Int32) (h0 : tg a0 = 7) (m0 : Mem), G K 2 [(0, .ref (kf K a0)), (1, .int x1), (2, .int x2), (3, .int x3)] [] m0 (X7_pass_L2 n a0 x1 x2 x3 m0) := by
  intro n
  induction n with
  | zero => intros; exact g_none
  | succ n ih =>
    intro a0 x1 x2 x3 h0 m0
    exact s_X7_pass_L2B C Rr  ih a0 x1 x2 x3 h0 m0
set_option maxHeartbeats 2000000 in
theorem s_X7_pass {K : KT}  (C : Cx K cX7_pass RX7 5 6) (Rr : Rx K none)  (a0 : Nat) (x1 : Int32) (x2 : Int32) (h0 : tg a0 = 7) (m0 : Mem) : G K 0 [(0, .ref (kf K a0)), (1, .int x1), (2, .int x2)] [] m0 (f_X7_pass a0 x1 x2 m0) := by
  unfold f_X7_pass
  refine g_iconst C (0 : Int32) dX7_pass_0 rfl ?_
  refine g_istore_n C dX7_pass_1 rfl (by decide) rfl ?_
  refine g_sub [1, 2, 3, 0] rfl ?_
  exact s_X7_pass_L2 C Rr FU a0 x1 x2 (0 : Int32) h0 m0
theorem ct_X7_pass {Ω : OT} (a0 : Nat) (x1 : Int32) (x2 : Int32) (h0 : tg a0 = 7) (m0 : Mem) : Ct Ω yX7_pass cX7_pass 5 none 6 [.ref (oF Ω a0), .int x1, .int x2] m0 (f_X7_pass a0 x1 x2 m0) := by
  refine Ct_of (by decide) (Nat.le_of_ble_eq_true rfl) ?_
  intro K hK C Rr
  subst hK
  exact s_X7_pass C Rr  a0 x1 x2 h0 m0
def X7_turnFrom_L2B  (k2 : Nat → Nat → Int32 → Int32 → Mem → Res) (a0 : Nat) (a1 : Nat) (x2 : Int32) (x3 : Int32) (m0 : Mem) : Res :=
  (if (m0 a0 4) ≤ x3 then
  some (0, m0)
  else
  gd (!((m0 a0 4) == 0)) (
  gd (inb (irm (x3 + x2) (m0 a0 4)) 6) (
  gd (inb x3 6) (
  cal (f_X5_copyFrom ((a0 + 2) + 5 + 3 * (irm (x3 + x2) (m0 a0 4)).toNatClampNeg) ((a1 + 2) + 5 + 3 * x3.toNatClampNeg) m0) (fun r3 m4 =>
  bnd (x3 + (1 : Int32)) (fun y5 =>
  k2 a0 a1 x2 y5 m4))))))
def X7_turnFrom_L2   : Nat → Nat → Nat → Int32 → Int32 → Mem → Res
  | 0 => fun _ _ _ _ _ => none
  | n + 1 => X7_turnFrom_L2B (X7_turnFrom_L2 n)
def f_X7_turnFrom  (a0 : Nat) (a1 : Nat) (x2 : Int32) (m0 : Mem) : Res :=
  X7_turnFrom_L2 FU a0 a1 x2 (0 : Int32) m0
set_option maxHeartbeats 2000000 in
theorem s_X7_turnFrom_L2B {K : KT}  (C : Cx K cX7_turnFrom RX7 4 2) (Rr : Rx K none)  {k2 : Nat → Nat → Int32 → Int32 → Mem → Res} (hk2 : ∀ (a0 : Nat) (a1 : Nat) (x2 : Int32) (x3 : Int32) (h0 : tg a0 = 7) (h1 : tg a1 = 7) (m0 : Mem), G K 2 [(0, .ref (kf K a0)), (1, .ref (kf K a1)), (2, .int x2), (3, .int x3)] [] m0 (k2 a0 a1 x2 x3 m0)) (a0 : Nat) (a1 : Nat) (x2 : Int32) (x3 : Int32) (h0 : tg a0 = 7) (h1 : tg a1 = 7) (m0 : Mem) : G K 2 [(0, .ref (kf K a0)), (1, .ref (kf K a1)), (2, .int x2), (3, .int x3)] [] m0 (X7_turnFrom_L2B k2 a0 a1 x2 x3 m0) := by
  unfold X7_turnFrom_L2B
  refine g_iload_n C dX7_turnFrom_2 3 rfl rfl ?_
  refine g_aload_n C dX7_turnFrom_3 0 rfl rfl ?_
  refine g_geti C 4 Fx7 h0 (by decide) rfl rfl q_134 dX7_turnFrom_4 ?_
  refine g_icmp_ge C 38 dX7_turnFrom_7 (by decide) (fun _ => ?_) (fun _ => ?_)
  · exact g_vret C Rr dX7_turnFrom_38
  · refine g_aload_n C dX7_turnFrom_10 0 rfl rfl ?_
    refine g_getr C 3 2 Fx7 h0 (by decide) rfl rfl q_131 dX7_turnFrom_11 ?_
    refine g_iload_n C dX7_turnFrom_14 3 rfl rfl ?_
    refine g_iload_n C dX7_turnFrom_15 2 rfl rfl ?_
    refine g_iadd C dX7_turnFrom_16 ?_
    refine g_aload_n C dX7_turnFrom_17 0 rfl rfl ?_
    refine g_geti C 4 Fx7 h0 (by decide) rfl rfl q_134 dX7_turnFrom_18 ?_
    refine g_irem C dX7_turnFrom_21 (fun _ => ?_)
    refine g_aald10 C (cl_7_3 h0) dX7_turnFrom_22 (fun g1 => ?_)
    refine g_aload_n C dX7_turnFrom_23 1 rfl rfl ?_
    refine g_getr C 3 2 Fx7 h1 (by decide) rfl rfl q_131 dX7_turnFrom_24 ?_
    refine g_iload_n C dX7_turnFrom_27 3 rfl rfl ?_
    refine g_aald10 C (cl_7_3 h1) dX7_turnFrom_28 (fun g2 => ?_)
    refine g_callVv C cv_X5_copyFrom (ct_X5_copyFrom ((a0 + 2) + 5 + 3 * (irm (x3 + x2) (m0 a0 4)).toNatClampNeg) ((a1 + 2) + 5 + 3 * x3.toNatClampNeg) (ca_10 (cl_7_3 h0) g1) (ca_10 (cl_7_3 h1) g2) m0) q_718 (ca_10 (cl_7_3 h0) g1) (by decide) rfl rfl (Nat.le_of_ble_eq_true rfl) dX7_turnFrom_29 (fun r3 m4 => ?_)
    refine g_iinc (k := 3) C dX7_turnFrom_32 rfl (w := (1 : Int32)) rfl (by decide) (fun v_ => [(3, .int v_), (0, .ref (kf K a0)), (1, .ref (kf K a1)), (2, .int x2)]) (fun _ => rfl) (fun y5 => ?_)
    refine g_goto C 2 dX7_turnFrom_35 (by decide) ?_
    refine g_sub [1, 2, 3, 0] rfl ?_
    exact hk2 a0 a1 x2 y5 h0 h1 m4
theorem s_X7_turnFrom_L2 {K : KT}  (C : Cx K cX7_turnFrom RX7 4 2) (Rr : Rx K none)    : ∀ (n : Nat) (a0 : Nat) (a1 : Nat) (x2 : Int32) (x3 : Int32) (h0 : tg a0 = 7) (h1 : tg a1 = 7) (m0 : Mem), G K 2 [(0, .ref (kf K a0)), (1, .ref (kf K a1)), (2, .int x2), (3, .int x3)] [] m0 (X7_turnFrom_L2 n a0 a1 x2 x3 m0) := by
  intro n
  induction n with
  | zero => intros; exact g_none
  | succ n ih =>
    intro a0 a1 x2 x3 h0 h1 m0
    exact s_X7_turnFrom_L2B C Rr  ih a0 a1 x2 x3 h0 h1 m0
set_option maxHeartbeats 2000000 in
theorem s_X7_turnFrom {K : KT}  (C : Cx K cX7_turnFrom RX7 4 2) (Rr : Rx K none)  (a0 : Nat) (a1 : Nat) (x2 : Int32) (h0 : tg a0 = 7) (h1 : tg a1 = 7) (m0 : Mem) : G K 0 [(0, .ref (kf K a0)), (1, .ref (kf K a1)), (2, .int x2)] [] m0 (f_X7_turnFrom a0 a1 x2 m0) := by
  unfold f_X7_turnFrom
  refine g_iconst C (0 : Int32) dX7_turnFrom_0 rfl ?_
  refine g_istore_n C dX7_turnFrom_1 rfl (by decide) rfl ?_
  refine g_sub [1, 2, 3, 0] rfl ?_
  exact s_X7_turnFrom_L2 C Rr FU a0 a1 x2 (0 : Int32) h0 h1 m0
theorem ct_X7_turnFrom {Ω : OT} (a0 : Nat) (a1 : Nat) (x2 : Int32) (h0 : tg a0 = 7) (h1 : tg a1 = 7) (m0 : Mem) : Ct Ω yX7_turnFrom cX7_turnFrom 4 none 2 [.ref (oF Ω a0), .ref (oF Ω a1), .int x2] m0 (f_X7_turnFrom a0 a1 x2 m0) := by
  refine Ct_of (by decide) (Nat.le_of_ble_eq_true rfl) ?_
  intro K hK C Rr
  subst hK
  exact s_X7_turnFrom C Rr  a0 a1 x2 h0 h1 m0
def X7_joinNext_L21B  (k21 : Nat → Int32 → Mem → Res) (a0 : Nat) (x2 : Int32) (m0 : Mem) : Res :=
  (if ((m0 a0 4) - (1 : Int32)) ≤ x2 then
  bnd (mset m0 a0 4 ((m0 a0 4) - (1 : Int32))) (fun m1 =>
  some (0, m1))
  else
  gd (inb x2 6) (
  gd (inb (x2 + (1 : Int32)) 6) (
  cal (f_X5_copyFrom ((a0 + 2) + 5 + 3 * x2.toNatClampNeg) ((a0 + 2) + 5 + 3 * (x2 + (1 : Int32)).toNatClampNeg) m0) (fun r4 m5 =>
  bnd (x2 + (1 : Int32)) (fun y6 =>
  k21 a0 y6 m5)))))
def X7_joinNext_L21   : Nat → Nat → Int32 → Mem → Res
  | 0 => fun _ _ _ => none
  | n + 1 => X7_joinNext_L21B (X7_joinNext_L21 n)
def f_X7_joinNext  (a0 : Nat) (x1 : Int32) (m0 : Mem) : Res :=
  gd (inb x1 6) (
  gd (inb (x1 + (1 : Int32)) 6) (
  cal (f_X5_join ((a0 + 2) + 5 + 3 * x1.toNatClampNeg) ((a0 + 2) + 5 + 3 * (x1 + (1 : Int32)).toNatClampNeg) m0) (fun r3 m4 =>
  bnd (x1 + (1 : Int32)) (fun y5 =>
  X7_joinNext_L21 FU a0 y5 m4))))
set_option maxHeartbeats 2000000 in
theorem s_X7_joinNext_L21B {K : KT}  (C : Cx K cX7_joinNext RX7 3 4) (Rr : Rx K none)  {k21 : Nat → Int32 → Mem → Res} (hk21 : ∀ (a0 : Nat) (x2 : Int32) (h0 : tg a0 = 7) (m0 : Mem), G K 21 [(0, .ref (kf K a0)), (2, .int x2)] [] m0 (k21 a0 x2 m0)) (a0 : Nat) (x2 : Int32) (h0 : tg a0 = 7) (m0 : Mem) : G K 21 [(0, .ref (kf K a0)), (2, .int x2)] [] m0 (X7_joinNext_L21B k21 a0 x2 m0) := by
  unfold X7_joinNext_L21B
  refine g_iload_n C dX7_joinNext_21 1 rfl rfl ?_
  refine g_aload_n C dX7_joinNext_22 0 rfl rfl ?_
  refine g_geti C 4 Fx7 h0 (by decide) rfl rfl q_134 dX7_joinNext_23 ?_
  refine g_iconst C (1 : Int32) dX7_joinNext_26 rfl ?_
  refine g_isub C dX7_joinNext_27 ?_
  refine g_icmp_ge C 54 dX7_joinNext_28 (by decide) (fun _ => ?_) (fun _ => ?_)
  · refine g_aload_n C dX7_joinNext_54 0 rfl rfl ?_
    refine g_dup C dX7_joinNext_55 rfl ?_
    refine g_geti C 4 Fx7 h0 (by decide) rfl rfl q_134 dX7_joinNext_56 ?_
    refine g_iconst C (1 : Int32) dX7_joinNext_59 rfl ?_
    refine g_isub C dX7_joinNext_60 ?_
    refine g_puti C 4 Fx7 h0 (by decide) rfl rfl rfl rfl q_134 dX7_joinNext_61 (fun m1 => ?_)
    exact g_vret C Rr dX7_joinNext_64
  · refine g_aload_n C dX7_joinNext_31 0 rfl rfl ?_
    refine g_getr C 3 2 Fx7 h0 (by decide) rfl rfl q_131 dX7_joinNext_32 ?_
    refine g_iload_n C dX7_joinNext_35 1 rfl rfl ?_
    refine g_aald10 C (cl_7_3 h0) dX7_joinNext_36 (fun g2 => ?_)
    refine g_aload_n C dX7_joinNext_37 0 rfl rfl ?_
    refine g_getr C 3 2 Fx7 h0 (by decide) rfl rfl q_131 dX7_joinNext_38 ?_
    refine g_iload_n C dX7_joinNext_41 1 rfl rfl ?_
    refine g_iconst C (1 : Int32) dX7_joinNext_42 rfl ?_
    refine g_iadd C dX7_joinNext_43 ?_
    refine g_aald10 C (cl_7_3 h0) dX7_joinNext_44 (fun g3 => ?_)
    refine g_callVv C cv_X5_copyFrom (ct_X5_copyFrom ((a0 + 2) + 5 + 3 * x2.toNatClampNeg) ((a0 + 2) + 5 + 3 * (x2 + (1 : Int32)).toNatClampNeg) (ca_10 (cl_7_3 h0) g2) (ca_10 (cl_7_3 h0) g3) m0) q_718 (ca_10 (cl_7_3 h0) g2) (by decide) rfl rfl (Nat.le_of_ble_eq_true rfl) dX7_joinNext_45 (fun r4 m5 => ?_)
    refine g_iinc (k := 1) C dX7_joinNext_48 rfl (w := (1 : Int32)) rfl (by decide) (fun v_ => [(2, .int v_), (0, .ref (kf K a0))]) (fun _ => rfl) (fun y6 => ?_)
    refine g_goto C 21 dX7_joinNext_51 (by decide) ?_
    refine g_sub [1, 0] rfl ?_
    exact hk21 a0 y6 h0 m5
theorem s_X7_joinNext_L21 {K : KT}  (C : Cx K cX7_joinNext RX7 3 4) (Rr : Rx K none)    : ∀ (n : Nat) (a0 : Nat) (x2 : Int32) (h0 : tg a0 = 7) (m0 : Mem), G K 21 [(0, .ref (kf K a0)), (2, .int x2)] [] m0 (X7_joinNext_L21 n a0 x2 m0) := by
  intro n
  induction n with
  | zero => intros; exact g_none
  | succ n ih =>
    intro a0 x2 h0 m0
    exact s_X7_joinNext_L21B C Rr  ih a0 x2 h0 m0
set_option maxHeartbeats 2000000 in
theorem s_X7_joinNext {K : KT}  (C : Cx K cX7_joinNext RX7 3 4) (Rr : Rx K none)  (a0 : Nat) (x1 : Int32) (h0 : tg a0 = 7) (m0 : Mem) : G K 0 [(0, .ref (kf K a0)), (1, .int x1)] [] m0 (f_X7_joinNext a0 x1 m0) := by
  unfold f_X7_joinNext
  refine g_aload_n C dX7_joinNext_0 0 rfl rfl ?_
  refine g_getr C 3 2 Fx7 h0 (by decide) rfl rfl q_131 dX7_joinNext_1 ?_
  refine g_iload_n C dX7_joinNext_4 1 rfl rfl ?_
  refine g_aald10 C (cl_7_3 h0) dX7_joinNext_5 (fun g1 => ?_)
  refine g_aload_n C dX7_joinNext_6 0 rfl rfl ?_
  refine g_getr C 3 2 Fx7 h0 (by decide) rfl rfl q_131 dX7_joinNext_7 ?_
  refine g_iload_n C dX7_joinNext_10 1 rfl rfl ?_
  refine g_iconst C (1 : Int32) dX7_joinNext_11 rfl ?_
  refine g_iadd C dX7_joinNext_12 ?_
  refine g_aald10 C (cl_7_3 h0) dX7_joinNext_13 (fun g2 => ?_)
  refine g_callVv C cv_X5_join (ct_X5_join ((a0 + 2) + 5 + 3 * x1.toNatClampNeg) ((a0 + 2) + 5 + 3 * (x1 + (1 : Int32)).toNatClampNeg) (ca_10 (cl_7_3 h0) g1) (ca_10 (cl_7_3 h0) g2) m0) q_769 (ca_10 (cl_7_3 h0) g1) (by decide) rfl rfl (Nat.le_of_ble_eq_true rfl) dX7_joinNext_14 (fun r3 m4 => ?_)
  refine g_iload_n C dX7_joinNext_17 1 rfl rfl ?_
  refine g_iconst C (1 : Int32) dX7_joinNext_18 rfl ?_
  refine g_iadd C dX7_joinNext_19 ?_
  refine g_bnd (fun y5 => ?_)
  refine g_istore_n C dX7_joinNext_20 rfl (by decide) rfl ?_
  refine g_sub [1, 0] rfl ?_
  exact s_X7_joinNext_L21 C Rr FU a0 y5 h0 m4
theorem ct_X7_joinNext {Ω : OT} (a0 : Nat) (x1 : Int32) (h0 : tg a0 = 7) (m0 : Mem) : Ct Ω yX7_joinNext cX7_joinNext 3 none 4 [.ref (oF Ω a0), .int x1] m0 (f_X7_joinNext a0 x1 m0) := by
  refine Ct_of (by decide) (Nat.le_of_ble_eq_true rfl) ?_
  intro K hK C Rr
  subst hK
  exact s_X7_joinNext C Rr  a0 x1 h0 m0
def X7_things_L4B  (k4 : Nat → Int32 → Int32 → Mem → Res) (a0 : Nat) (x1 : Int32) (x2 : Int32) (m0 : Mem) : Res :=
  (if (m0 a0 4) ≤ x2 then
  some (x1, m0)
  else
  gd (inb x2 6) (
  cal (f_X5_things ((a0 + 2) + 5 + 3 * x2.toNatClampNeg) m0) (fun r2 m3 =>
  bnd (x1 + r2) (fun y4 =>
  bnd (x2 + (1 : Int32)) (fun y5 =>
  k4 a0 y4 y5 m3)))))
def X7_things_L4   : Nat → Nat → Int32 → Int32 → Mem → Res
  | 0 => fun _ _ _ _ => none
  | n + 1 => X7_things_L4B (X7_things_L4 n)
def f_X7_things  (a0 : Nat) (m0 : Mem) : Res :=
  X7_things_L4 FU a0 (0 : Int32) (0 : Int32) m0
set_option maxHeartbeats 2000000 in
theorem s_X7_things_L4B {K : KT}  (C : Cx K cX7_things RX7 3 2) (Rr : Rx K (some .int))  {k4 : Nat → Int32 → Int32 → Mem → Res} (hk4 : ∀ (a0 : Nat) (x1 : Int32) (x2 : Int32) (h0 : tg a0 = 7) (m0 : Mem), G K 4 [(0, .ref (kf K a0)), (1, .int x1), (2, .int x2)] [] m0 (k4 a0 x1 x2 m0)) (a0 : Nat) (x1 : Int32) (x2 : Int32) (h0 : tg a0 = 7) (m0 : Mem) : G K 4 [(0, .ref (kf K a0)), (1, .int x1), (2, .int x2)] [] m0 (X7_things_L4B k4 a0 x1 x2 m0) := by
  unfold X7_things_L4B
  refine g_iload_n C dX7_things_4 2 rfl rfl ?_
  refine g_aload_n C dX7_things_5 0 rfl rfl ?_
  refine g_geti C 4 Fx7 h0 (by decide) rfl rfl q_134 dX7_things_6 ?_
  refine g_icmp_ge C 30 dX7_things_9 (by decide) (fun _ => ?_) (fun _ => ?_)
  · refine g_iload_n C dX7_things_30 1 rfl rfl ?_
    exact g_iret C Rr dX7_things_31
  · refine g_iload_n C dX7_things_12 1 rfl rfl ?_
    refine g_aload_n C dX7_things_13 0 rfl rfl ?_
    refine g_getr C 3 2 Fx7 h0 (by decide) rfl rfl q_131 dX7_things_14 ?_
    refine g_iload_n C dX7_things_17 2 rfl rfl ?_
    refine g_aald10 C (cl_7_3 h0) dX7_things_18 (fun g1 => ?_)
    refine g_callVi C cv_X5_things (ct_X5_things ((a0 + 2) + 5 + 3 * x2.toNatClampNeg) (ca_10 (cl_7_3 h0) g1) m0) q_661 (ca_10 (cl_7_3 h0) g1) (by decide) rfl rfl (Nat.le_of_ble_eq_true rfl) dX7_things_19 (fun r2 m3 => ?_)
    refine g_iadd C dX7_things_22 ?_
    refine g_bnd (fun y4 => ?_)
    refine g_istore_n C dX7_things_23 rfl (by decide) rfl ?_
    refine g_iinc (k := 2) C dX7_things_24 rfl (w := (1 : Int32)) rfl (by decide) (fun v_ => [(2, .int v_), (1, .int y4), (0, .ref (kf K a0))]) (fun _ => rfl) (fun y5 => ?_)
    refine g_goto C 4 dX7_things_27 (by decide) ?_
    refine g_sub [2, 1, 0] rfl ?_
    exact hk4 a0 y4 y5 h0 m3
theorem s_X7_things_L4 {K : KT}  (C : Cx K cX7_things RX7 3 2) (Rr : Rx K (some .int))    : ∀ (n : Nat) (a0 : Nat) (x1 : Int32) (x2 : Int32) (h0 : tg a0 = 7) (m0 : Mem), G K 4 [(0, .ref (kf K a0)), (1, .int x1), (2, .int x2)] [] m0 (X7_things_L4 n a0 x1 x2 m0) := by
  intro n
  induction n with
  | zero => intros; exact g_none
  | succ n ih =>
    intro a0 x1 x2 h0 m0
    exact s_X7_things_L4B C Rr  ih a0 x1 x2 h0 m0
set_option maxHeartbeats 2000000 in
theorem s_X7_things {K : KT}  (C : Cx K cX7_things RX7 3 2) (Rr : Rx K (some .int))  (a0 : Nat) (h0 : tg a0 = 7) (m0 : Mem) : G K 0 [(0, .ref (kf K a0))] [] m0 (f_X7_things a0 m0) := by
  unfold f_X7_things
  refine g_iconst C (0 : Int32) dX7_things_0 rfl ?_
  refine g_istore_n C dX7_things_1 rfl (by decide) rfl ?_
  refine g_iconst C (0 : Int32) dX7_things_2 rfl ?_
  refine g_istore_n C dX7_things_3 rfl (by decide) rfl ?_
  refine g_sub [2, 1, 0] rfl ?_
  exact s_X7_things_L4 C Rr FU a0 (0 : Int32) (0 : Int32) h0 m0
theorem ct_X7_things {Ω : OT} (a0 : Nat) (h0 : tg a0 = 7) (m0 : Mem) : Ct Ω yX7_things cX7_things 3 (some .int) 2 [.ref (oF Ω a0)] m0 (f_X7_things a0 m0) := by
  refine Ct_of (by decide) (Nat.le_of_ble_eq_true rfl) ?_
  intro K hK C Rr
  subst hK
  exact s_X7_things C Rr  a0 h0 m0
def X7_purses_L4B  (k4 : Nat → Int32 → Int32 → Mem → Res) (a0 : Nat) (x1 : Int32) (x2 : Int32) (m0 : Mem) : Res :=
  (if (m0 a0 4) ≤ x2 then
  some (x1, m0)
  else
  gd (inb x2 6) (
  bnd (x1 + (m0 ((a0 + 2) + 5 + 3 * x2.toNatClampNeg) 2)) (fun y2 =>
  bnd (x2 + (1 : Int32)) (fun y3 =>
  k4 a0 y2 y3 m0))))
def X7_purses_L4   : Nat → Nat → Int32 → Int32 → Mem → Res
  | 0 => fun _ _ _ _ => none
  | n + 1 => X7_purses_L4B (X7_purses_L4 n)
def f_X7_purses  (a0 : Nat) (m0 : Mem) : Res :=
  X7_purses_L4 FU a0 (0 : Int32) (0 : Int32) m0
set_option maxHeartbeats 2000000 in
theorem s_X7_purses_L4B {K : KT}  (C : Cx K cX7_purses RX7 3 1) (Rr : Rx K (some .int))  {k4 : Nat → Int32 → Int32 → Mem → Res} (hk4 : ∀ (a0 : Nat) (x1 : Int32) (x2 : Int32) (h0 : tg a0 = 7) (m0 : Mem), G K 4 [(0, .ref (kf K a0)), (1, .int x1), (2, .int x2)] [] m0 (k4 a0 x1 x2 m0)) (a0 : Nat) (x1 : Int32) (x2 : Int32) (h0 : tg a0 = 7) (m0 : Mem) : G K 4 [(0, .ref (kf K a0)), (1, .int x1), (2, .int x2)] [] m0 (X7_purses_L4B k4 a0 x1 x2 m0) := by
  unfold X7_purses_L4B
  refine g_iload_n C dX7_purses_4 2 rfl rfl ?_
  refine g_aload_n C dX7_purses_5 0 rfl rfl ?_
  refine g_geti C 4 Fx7 h0 (by decide) rfl rfl q_134 dX7_purses_6 ?_
  refine g_icmp_ge C 30 dX7_purses_9 (by decide) (fun _ => ?_) (fun _ => ?_)
  · refine g_iload_n C dX7_purses_30 1 rfl rfl ?_
    exact g_iret C Rr dX7_purses_31
  · refine g_iload_n C dX7_purses_12 1 rfl rfl ?_
    refine g_aload_n C dX7_purses_13 0 rfl rfl ?_
    refine g_getr C 3 2 Fx7 h0 (by decide) rfl rfl q_131 dX7_purses_14 ?_
    refine g_iload_n C dX7_purses_17 2 rfl rfl ?_
    refine g_aald10 C (cl_7_3 h0) dX7_purses_18 (fun g1 => ?_)
    refine g_geti C 2 Fx5 (ca_10 (cl_7_3 h0) g1) (by decide) rfl rfl q_56 dX7_purses_19 ?_
    refine g_iadd C dX7_purses_22 ?_
    refine g_bnd (fun y2 => ?_)
    refine g_istore_n C dX7_purses_23 rfl (by decide) rfl ?_
    refine g_iinc (k := 2) C dX7_purses_24 rfl (w := (1 : Int32)) rfl (by decide) (fun v_ => [(2, .int v_), (1, .int y2), (0, .ref (kf K a0))]) (fun _ => rfl) (fun y3 => ?_)
    refine g_goto C 4 dX7_purses_27 (by decide) ?_
    refine g_sub [2, 1, 0] rfl ?_
    exact hk4 a0 y2 y3 h0 m0
theorem s_X7_purses_L4 {K : KT}  (C : Cx K cX7_purses RX7 3 1) (Rr : Rx K (some .int))    : ∀ (n : Nat) (a0 : Nat) (x1 : Int32) (x2 : Int32) (h0 : tg a0 = 7) (m0 : Mem), G K 4 [(0, .ref (kf K a0)), (1, .int x1), (2, .int x2)] [] m0 (X7_purses_L4 n a0 x1 x2 m0) := by
  intro n
  induction n with
  | zero => intros; exact g_none
  | succ n ih =>
    intro a0 x1 x2 h0 m0
    exact s_X7_purses_L4B C Rr  ih a0 x1 x2 h0 m0
set_option maxHeartbeats 2000000 in
theorem s_X7_purses {K : KT}  (C : Cx K cX7_purses RX7 3 1) (Rr : Rx K (some .int))  (a0 : Nat) (h0 : tg a0 = 7) (m0 : Mem) : G K 0 [(0, .ref (kf K a0))] [] m0 (f_X7_purses a0 m0) := by
  unfold f_X7_purses
  refine g_iconst C (0 : Int32) dX7_purses_0 rfl ?_
  refine g_istore_n C dX7_purses_1 rfl (by decide) rfl ?_
  refine g_iconst C (0 : Int32) dX7_purses_2 rfl ?_
  refine g_istore_n C dX7_purses_3 rfl (by decide) rfl ?_
  refine g_sub [2, 1, 0] rfl ?_
  exact s_X7_purses_L4 C Rr FU a0 (0 : Int32) (0 : Int32) h0 m0
theorem ct_X7_purses {Ω : OT} (a0 : Nat) (h0 : tg a0 = 7) (m0 : Mem) : Ct Ω yX7_purses cX7_purses 3 (some .int) 1 [.ref (oF Ω a0)] m0 (f_X7_purses a0 m0) := by
  refine Ct_of (by decide) (Nat.le_of_ble_eq_true rfl) ?_
  intro K hK C Rr
  subst hK
  exact s_X7_purses C Rr  a0 h0 m0
def f_X8_isGood  (x0 : Int32) (m0 : Mem) : Res :=
  cal (f_X8_within x0 (0 : Int32) (5 : Int32) m0) (fun r1 m2 =>
  gd (isb r1) (some (r1, m2)))
set_option maxHeartbeats 2000000 in
theorem s_X8_isGood {K : KT}  (C : Cx K cX8_isGood RX8 1 2) (Rr : Rx K (some .boolean))  (x0 : Int32)  (m0 : Mem) : G K 0 [(0, .int x0)] [] m0 (f_X8_isGood x0 m0) := by
  unfold f_X8_isGood
  refine g_iload_n C dX8_isGood_0 0 rfl rfl ?_
  refine g_iconst C (0 : Int32) dX8_isGood_1 rfl ?_
  refine g_iconst C (5 : Int32) dX8_isGood_2 rfl ?_
  refine g_callSi C cv_X8_within q_342 (ct_X8_within x0 (0 : Int32) (5 : Int32)  m0) q_341 (by decide) rfl rfl (Nat.le_of_ble_eq_true rfl) dX8_isGood_3 (fun r1 m2 => ?_)
  exact g_zret C Rr dX8_isGood_6
theorem ct_X8_isGood {Ω : OT} (x0 : Int32)  (m0 : Mem) : Ct Ω yX8_isGood cX8_isGood 1 (some .boolean) 2 [.int x0] m0 (f_X8_isGood x0 m0) := by
  refine Ct_of (by decide) (Nat.le_of_ble_eq_true rfl) ?_
  intro K hK C Rr
  subst hK
  exact s_X8_isGood C Rr  x0 m0
def f_X8_error  (a0 : Nat) (x1 : Int32) (m0 : Mem) : Res :=
  gd (inb x1 7) (
  gd (inb x1 7) (bnd (mset m0 (a0 + 133) x1.toNatClampNeg ((m0 (a0 + 133) x1.toNatClampNeg) + (1 : Int32))) (fun m1 =>
  some ((-1000000000 : Int32) - x1, m1))))
set_option maxHeartbeats 2000000 in
theorem s_X8_error {K : KT}  (C : Cx K cX8_error RX8 2 1) (Rr : Rx K (some .int))  (a0 : Nat) (x1 : Int32) (h0 : tg a0 = 8) (m0 : Mem) : G K 0 [(0, .ref (kf K a0)), (1, .int x1)] [] m0 (f_X8_error a0 x1 m0) := by
  unfold f_X8_error
  refine g_aload_n C dX8_error_0 0 rfl rfl ?_
  refine g_getr C 7 133 Fx8 h0 (by decide) rfl rfl q_313 dX8_error_1 ?_
  refine g_iload_n C dX8_error_4 1 rfl rfl ?_
  refine g_dup2 C dX8_error_5 rfl rfl ?_
  refine g_iald (n := 7) C (cl_8_7 h0) dX8_error_6 (fun _ => ?_)
  refine g_iconst C (1 : Int32) dX8_error_7 rfl ?_
  refine g_iadd C dX8_error_8 ?_
  refine g_iast (n := 7) C (cl_8_7 h0) dX8_error_9 (fun m1 => ?_)
  refine g_ldcw (v := (-1000000000 : Int32)) C q_348 dX8_error_10 ?_
  refine g_iload_n C dX8_error_13 1 rfl rfl ?_
  refine g_isub C dX8_error_14 ?_
  exact g_iret C Rr dX8_error_15
theorem ct_X8_error {Ω : OT} (a0 : Nat) (x1 : Int32) (h0 : tg a0 = 8) (m0 : Mem) : Ct Ω yX8_error cX8_error 2 (some .int) 1 [.ref (oF Ω a0), .int x1] m0 (f_X8_error a0 x1 m0) := by
  refine Ct_of (by decide) (Nat.le_of_ble_eq_true rfl) ?_
  intro K hK C Rr
  subst hK
  exact s_X8_error C Rr  a0 x1 h0 m0
def X8_cost_J17   (a0 : Nat) (m0 : Mem) : Res :=
  cal (f_X8_error a0 (1 : Int32) m0) (fun r1 m2 =>
  some (r1, m2))
def f_X8_cost  (a0 : Nat) (x1 : Int32) (x2 : Int32) (m0 : Mem) : Res :=
  cal (f_X8_isGood x1 m0) (fun r1 m2 =>
  (if r1 = 0 then
  X8_cost_J17 a0 m2
  else
  cal (f_X8_within x2 (0 : Int32) (99 : Int32) m2) (fun r3 m4 =>
  (if r3 = 0 then
  X8_cost_J17 a0 m4
  else
  gd (inb x1 6) (
  bnd (m4 ((a0 + 1) + 1) x1.toNatClampNeg) (fun y5 =>
  gd (inb x1 6) (bnd (mset m4 ((a0 + 1) + 1) x1.toNatClampNeg x2) (fun m6 =>
  some (y5, m6)))))))))
set_option maxHeartbeats 2000000 in
theorem s_X8_cost_J17 {K : KT}  (C : Cx K cX8_cost RX8 4 3) (Rr : Rx K (some .int))    (a0 : Nat) (h0 : tg a0 = 8) (m0 : Mem) : G K 17 [(0, .ref (kf K a0))] [] m0 (X8_cost_J17 a0 m0) := by
  unfold X8_cost_J17
  refine g_aload_n C dX8_cost_17 0 rfl rfl ?_
  refine g_iconst C (1 : Int32) dX8_cost_18 rfl ?_
  refine g_callVi C cv_X8_error (ct_X8_error a0 (1 : Int32) h0 m0) q_344 h0 (by decide) rfl rfl (Nat.le_of_ble_eq_true rfl) dX8_cost_19 (fun r1 m2 => ?_)
  exact g_iret C Rr dX8_cost_22
set_option maxHeartbeats 2000000 in
theorem s_X8_cost {K : KT}  (C : Cx K cX8_cost RX8 4 3) (Rr : Rx K (some .int))  (a0 : Nat) (x1 : Int32) (x2 : Int32) (h0 : tg a0 = 8) (m0 : Mem) : G K 0 [(0, .ref (kf K a0)), (1, .int x1), (2, .int x2)] [] m0 (f_X8_cost a0 x1 x2 m0) := by
  unfold f_X8_cost
  refine g_iload_n C dX8_cost_0 1 rfl rfl ?_
  refine g_callSi C cv_X8_isGood q_339 (ct_X8_isGood x1  m0) q_338 (by decide) rfl rfl (Nat.le_of_ble_eq_true rfl) dX8_cost_1 (fun r1 m2 => ?_)
  refine g_if_eq C 17 dX8_cost_4 (by decide) (fun _ => ?_) (fun _ => ?_)
  · refine g_sub [0] rfl ?_
    exact s_X8_cost_J17 C Rr a0 h0 m2
  · refine g_iload_n C dX8_cost_7 2 rfl rfl ?_
    refine g_iconst C (0 : Int32) dX8_cost_8 rfl ?_
    refine g_bipush C (99 : Int32) dX8_cost_9 rfl ?_
    refine g_callSi C cv_X8_within q_342 (ct_X8_within x2 (0 : Int32) (99 : Int32)  m2) q_341 (by decide) rfl rfl (Nat.le_of_ble_eq_true rfl) dX8_cost_11 (fun r3 m4 => ?_)
    refine g_if_ne C 23 dX8_cost_14 (by decide) (fun _ => ?_) (fun _ => ?_)
    · refine g_aload_n C dX8_cost_23 0 rfl rfl ?_
      refine g_getr C 0 1 Fx8 h0 (by decide) rfl rfl q_306 dX8_cost_24 ?_
      refine g_getr C 0 1 Fx7 (cl_8_0 h0) (by decide) rfl rfl q_126 dX8_cost_27 ?_
      refine g_iload_n C dX8_cost_30 1 rfl rfl ?_
      refine g_iald (n := 6) C (cl_7_0 (cl_8_0 h0)) dX8_cost_31 (fun _ => ?_)
      refine g_bnd (fun y5 => ?_)
      refine g_istore_n C dX8_cost_32 rfl (by decide) rfl ?_
      refine g_aload_n C dX8_cost_33 1 rfl rfl ?_
      refine g_getr C 0 1 Fx8 h0 (by decide) rfl rfl q_306 dX8_cost_34 ?_
      refine g_getr C 0 1 Fx7 (cl_8_0 h0) (by decide) rfl rfl q_126 dX8_cost_37 ?_
      refine g_iload_n C dX8_cost_40 2 rfl rfl ?_
      refine g_iload_n C dX8_cost_41 3 rfl rfl ?_
      refine g_iast (n := 6) C (cl_7_0 (cl_8_0 h0)) dX8_cost_42 (fun m6 => ?_)
      refine g_iload_n C dX8_cost_43 0 rfl rfl ?_
      exact g_iret C Rr dX8_cost_44
    · refine g_sub [0] rfl ?_
      exact s_X8_cost_J17 C Rr a0 h0 m4
theorem ct_X8_cost {Ω : OT} (a0 : Nat) (x1 : Int32) (x2 : Int32) (h0 : tg a0 = 8) (m0 : Mem) : Ct Ω yX8_cost cX8_cost 4 (some .int) 3 [.ref (oF Ω a0), .int x1, .int x2] m0 (f_X8_cost a0 x1 x2 m0) := by
  refine Ct_of (by decide) (Nat.le_of_ble_eq_true rfl) ?_
  intro K hK C Rr
  subst hK
  exact s_X8_cost C Rr  a0 x1 x2 h0 m0
def X8_rule_J63   (a0 : Nat) (m0 : Mem) : Res :=
  cal (f_X8_error a0 (1 : Int32) m0) (fun r1 m2 =>
  some (r1, m2))
def X8_rule_J31   (a0 : Nat) (x1 : Int32) (x2 : Int32) (m0 : Mem) : Res :=
  (if x1 = (1 : Int32) then
  cal (f_X8_within x2 (0 : Int32) (2 : Int32) m0) (fun r1 m2 =>
  (if r1 = 0 then
  X8_rule_J63 a0 m2
  else
  bnd (m2 (a0 + 1) 2) (fun y3 =>
  bnd (mset m2 (a0 + 1) 2 x2) (fun m4 =>
  some (y3, m4)))))
  else
  X8_rule_J63 a0 m0)
def f_X8_rule  (a0 : Nat) (x1 : Int32) (x2 : Int32) (m0 : Mem) : Res :=
  (if x1 = 0 then
  cal (f_X8_within x2 (0 : Int32) (1 : Int32) m0) (fun r1 m2 =>
  (if r1 = 0 then
  X8_rule_J31 a0 x1 x2 m2
  else
  bnd (m2 (a0 + 1) 1) (fun y3 =>
  bnd (mset m2 (a0 + 1) 1 x2) (fun m4 =>
  some (y3, m4)))))
  else
  X8_rule_J31 a0 x1 x2 m0)
set_option maxHeartbeats 2000000 in
theorem s_X8_rule_J63 {K : KT}  (C : Cx K cX8_rule RX8 4 2) (Rr : Rx K (some .int))    (a0 : Nat) (h0 : tg a0 = 8) (m0 : Mem) : G K 63 [(0, .ref (kf K a0))] [] m0 (X8_rule_J63 a0 m0) := by
  unfold X8_rule_J63
  refine g_aload_n C dX8_rule_63 0 rfl rfl ?_
  refine g_iconst C (1 : Int32) dX8_rule_64 rfl ?_
  refine g_callVi C cv_X8_error (ct_X8_error a0 (1 : Int32) h0 m0) q_344 h0 (by decide) rfl rfl (Nat.le_of_ble_eq_true rfl) dX8_rule_65 (fun r1 m2 => ?_)
  exact g_iret C Rr dX8_rule_68
set_option maxHeartbeats 2000000 in
theorem s_X8_rule_J31 {K : KT}  (C : Cx K cX8_rule RX8 4 2) (Rr : Rx K (some .int))    (a0 : Nat) (x1 : Int32) (x2 : Int32) (h0 : tg a0 = 8) (m0 : Mem) : G K 31 [(0, .ref (kf K a0)), (1, .int x1), (2, .int x2)] [] m0 (X8_rule_J31 a0 x1 x2 m0) := by
  unfold X8_rule_J31
  refine g_iload_n C dX8_rule_31 1 rfl rfl ?_
  refine g_iconst C (1 : Int32) dX8_rule_32 rfl ?_
  refine g_icmp_ne C 63 dX8_rule_33 (by decide) (fun _ => ?_) (fun _ => ?_)
  · refine g_sub [0] rfl ?_
    exact s_X8_rule_J63 C Rr a0 h0 m0
  · refine g_iload_n C dX8_rule_36 2 rfl rfl ?_
    refine g_iconst C (0 : Int32) dX8_rule_37 rfl ?_
    refine g_iconst C (2 : Int32) dX8_rule_38 rfl ?_
    refine g_callSi C cv_X8_within q_342 (ct_X8_within x2 (0 : Int32) (2 : Int32)  m0) q_341 (by decide) rfl rfl (Nat.le_of_ble_eq_true rfl) dX8_rule_39 (fun r1 m2 => ?_)
    refine g_if_eq C 63 dX8_rule_42 (by decide) (fun _ => ?_) (fun _ => ?_)
    · refine g_sub [0] rfl ?_
      exact s_X8_rule_J63 C Rr a0 h0 m2
    · refine g_aload_n C dX8_rule_45 0 rfl rfl ?_
      refine g_getr C 0 1 Fx8 h0 (by decide) rfl rfl q_306 dX8_rule_46 ?_
      refine g_geti C 2 Fx7 (cl_8_0 h0) (by decide) rfl rfl q_130 dX8_rule_49 ?_
      refine g_bnd (fun y3 => ?_)
      refine g_istore_n C dX8_rule_52 rfl (by decide) rfl ?_
      refine g_aload_n C dX8_rule_53 1 rfl rfl ?_
      refine g_getr C 0 1 Fx8 h0 (by decide) rfl rfl q_306 dX8_rule_54 ?_
      refine g_iload_n C dX8_rule_57 3 rfl rfl ?_
      refine g_puti C 2 Fx7 (cl_8_0 h0) (by decide) rfl rfl rfl rfl q_130 dX8_rule_58 (fun m4 => ?_)
      refine g_iload_n C dX8_rule_61 0 rfl rfl ?_
      exact g_iret C Rr dX8_rule_62
set_option maxHeartbeats 2000000 in
theorem s_X8_rule {K : KT}  (C : Cx K cX8_rule RX8 4 2) (Rr : Rx K (some .int))  (a0 : Nat) (x1 : Int32) (x2 : Int32) (h0 : tg a0 = 8) (m0 : Mem) : G K 0 [(0, .ref (kf K a0)), (1, .int x1), (2, .int x2)] [] m0 (f_X8_rule a0 x1 x2 m0) := by
  unfold f_X8_rule
  refine g_iload_n C dX8_rule_0 1 rfl rfl ?_
  refine g_if_ne C 31 dX8_rule_1 (by decide) (fun _ => ?_) (fun _ => ?_)
  · refine g_sub [0, 1, 2] rfl ?_
    exact s_X8_rule_J31 C Rr a0 x1 x2 h0 m0
  · refine g_iload_n C dX8_rule_4 2 rfl rfl ?_
    refine g_iconst C (0 : Int32) dX8_rule_5 rfl ?_
    refine g_iconst C (1 : Int32) dX8_rule_6 rfl ?_
    refine g_callSi C cv_X8_within q_342 (ct_X8_within x2 (0 : Int32) (1 : Int32)  m0) q_341 (by decide) rfl rfl (Nat.le_of_ble_eq_true rfl) dX8_rule_7 (fun r1 m2 => ?_)
    refine g_if_eq C 31 dX8_rule_10 (by decide) (fun _ => ?_) (fun _ => ?_)
    · refine g_sub [0, 1, 2] rfl ?_
      exact s_X8_rule_J31 C Rr a0 x1 x2 h0 m2
    · refine g_aload_n C dX8_rule_13 0 rfl rfl ?_
      refine g_getr C 0 1 Fx8 h0 (by decide) rfl rfl q_306 dX8_rule_14 ?_
      refine g_geti C 1 Fx7 (cl_8_0 h0) (by decide) rfl rfl q_128 dX8_rule_17 ?_
      refine g_bnd (fun y3 => ?_)
      refine g_istore_n C dX8_rule_20 rfl (by decide) rfl ?_
      refine g_aload_n C dX8_rule_21 1 rfl rfl ?_
      refine g_getr C 0 1 Fx8 h0 (by decide) rfl rfl q_306 dX8_rule_22 ?_
      refine g_iload_n C dX8_rule_25 3 rfl rfl ?_
      refine g_puti C 1 Fx7 (cl_8_0 h0) (by decide) rfl rfl rfl rfl q_128 dX8_rule_26 (fun m4 => ?_)
      refine g_iload_n C dX8_rule_29 0 rfl rfl ?_
      exact g_iret C Rr dX8_rule_30
theorem ct_X8_rule {Ω : OT} (a0 : Nat) (x1 : Int32) (x2 : Int32) (h0 : tg a0 = 8) (m0 : Mem) : Ct Ω yX8_rule cX8_rule 4 (some .int) 2 [.ref (oF Ω a0), .int x1, .int x2] m0 (f_X8_rule a0 x1 x2 m0) := by
  refine Ct_of (by decide) (Nat.le_of_ble_eq_true rfl) ?_
  intro K hK C Rr
  subst hK
  exact s_X8_rule C Rr  a0 x1 x2 h0 m0
def f_X8_shop  (a0 : Nat) (x1 : Int32) (m0 : Mem) : Res :=
  cal (f_X8_within x1 (0 : Int32) (69 : Int32) m0) (fun r1 m2 =>
  (if r1 = 0 then
  cal (f_X8_error a0 (1 : Int32) m2) (fun r9 m10 =>
  some (r9, m10))
  else
  (if (m2 (a0 + 1) 4) < (6 : Int32) then
  gd (inb (m2 (a0 + 1) 4) 6) (
  gd (!((10 : Int32) == 0)) (
  gd (!((10 : Int32) == 0)) (
  cal (f_X5_open (((a0 + 1) + 2) + 5 + 3 * (m2 (a0 + 1) 4).toNatClampNeg) (x1 / (10 : Int32)) (irm x1 (10 : Int32)) m2) (fun r4 m5 =>
  bnd (mset m5 (a0 + 1) 4 ((m5 (a0 + 1) 4) + (1 : Int32))) (fun m6 =>
  some ((m6 (a0 + 1) 4) - (1 : Int32), m6))))))
  else
  cal (f_X8_error a0 (4 : Int32) m2) (fun r7 m8 =>
  some (r7, m8)))))
set_option maxHeartbeats 2000000 in
theorem s_X8_shop {K : KT}  (C : Cx K cX8_shop RX8 2 3) (Rr : Rx K (some .int))  (a0 : Nat) (x1 : Int32) (h0 : tg a0 = 8) (m0 : Mem) : G K 0 [(0, .ref (kf K a0)), (1, .int x1)] [] m0 (f_X8_shop a0 x1 m0) := by
  unfold f_X8_shop
  refine g_iload_n C dX8_shop_0 1 rfl rfl ?_
  refine g_iconst C (0 : Int32) dX8_shop_1 rfl ?_
  refine g_bipush C (69 : Int32) dX8_shop_2 rfl ?_
  refine g_callSi C cv_X8_within q_342 (ct_X8_within x1 (0 : Int32) (69 : Int32)  m0) q_341 (by decide) rfl rfl (Nat.le_of_ble_eq_true rfl) dX8_shop_4 (fun r1 m2 => ?_)
  refine g_if_ne C 16 dX8_shop_7 (by decide) (fun _ => ?_) (fun _ => ?_)
  · refine g_aload_n C dX8_shop_16 0 rfl rfl ?_
    refine g_getr C 0 1 Fx8 h0 (by decide) rfl rfl q_306 dX8_shop_17 ?_
    refine g_geti C 4 Fx7 (cl_8_0 h0) (by decide) rfl rfl q_136 dX8_shop_20 ?_
    refine g_bipush C (6 : Int32) dX8_shop_23 rfl ?_
    refine g_icmp_lt C 34 dX8_shop_25 (by decide) (fun _ => ?_) (fun _ => ?_)
    · refine g_aload_n C dX8_shop_34 0 rfl rfl ?_
      refine g_getr C 0 1 Fx8 h0 (by decide) rfl rfl q_306 dX8_shop_35 ?_
      refine g_getr C 3 2 Fx7 (cl_8_0 h0) (by decide) rfl rfl q_133 dX8_shop_38 ?_
      refine g_aload_n C dX8_shop_41 0 rfl rfl ?_
      refine g_getr C 0 1 Fx8 h0 (by decide) rfl rfl q_306 dX8_shop_42 ?_
      refine g_geti C 4 Fx7 (cl_8_0 h0) (by decide) rfl rfl q_136 dX8_shop_45 ?_
      refine g_aald10 C (cl_7_3 (cl_8_0 h0)) dX8_shop_48 (fun g3 => ?_)
      refine g_iload_n C dX8_shop_49 1 rfl rfl ?_
      refine g_bipush C (10 : Int32) dX8_shop_50 rfl ?_
      refine g_idiv C dX8_shop_52 (fun _ => ?_)
      refine g_iload_n C dX8_shop_53 1 rfl rfl ?_
      refine g_bipush C (10 : Int32) dX8_shop_54 rfl ?_
      refine g_irem C dX8_shop_56 (fun _ => ?_)
      refine g_callVv C cv_X5_open (ct_X5_open (((a0 + 1) + 2) + 5 + 3 * (m2 (a0 + 1) 4).toNatClampNeg) (x1 / (10 : Int32)) (irm x1 (10 : Int32)) (ca_10 (cl_7_3 (cl_8_0 h0)) g3) m2) q_357 (ca_10 (cl_7_3 (cl_8_0 h0)) g3) (by decide) rfl rfl (Nat.le_of_ble_eq_true rfl) dX8_shop_57 (fun r4 m5 => ?_)
      refine g_aload_n C dX8_shop_60 0 rfl rfl ?_
      refine g_getr C 0 1 Fx8 h0 (by decide) rfl rfl q_306 dX8_shop_61 ?_
      refine g_dup C dX8_shop_64 rfl ?_
      refine g_geti C 4 Fx7 (cl_8_0 h0) (by decide) rfl rfl q_136 dX8_shop_65 ?_
      refine g_iconst C (1 : Int32) dX8_shop_68 rfl ?_
      refine g_iadd C dX8_shop_69 ?_
      refine g_puti C 4 Fx7 (cl_8_0 h0) (by decide) rfl rfl rfl rfl q_136 dX8_shop_70 (fun m6 => ?_)
      refine g_aload_n C dX8_shop_73 0 rfl rfl ?_
      refine g_getr C 0 1 Fx8 h0 (by decide) rfl rfl q_306 dX8_shop_74 ?_
      refine g_geti C 4 Fx7 (cl_8_0 h0) (by decide) rfl rfl q_136 dX8_shop_77 ?_
      refine g_iconst C (1 : Int32) dX8_shop_80 rfl ?_
      refine g_isub C dX8_shop_81 ?_
      exact g_iret C Rr dX8_shop_82
    · refine g_aload_n C dX8_shop_28 0 rfl rfl ?_
      refine g_iconst C (4 : Int32) dX8_shop_29 rfl ?_
      refine g_callVi C cv_X8_error (ct_X8_error a0 (4 : Int32) h0 m2) q_344 h0 (by decide) rfl rfl (Nat.le_of_ble_eq_true rfl) dX8_shop_30 (fun r7 m8 => ?_)
      exact g_iret C Rr dX8_shop_33
  · refine g_aload_n C dX8_shop_10 0 rfl rfl ?_
    refine g_iconst C (1 : Int32) dX8_shop_11 rfl ?_
    refine g_callVi C cv_X8_error (ct_X8_error a0 (1 : Int32) h0 m2) q_344 h0 (by decide) rfl rfl (Nat.le_of_ble_eq_true rfl) dX8_shop_12 (fun r9 m10 => ?_)
    exact g_iret C Rr dX8_shop_15
theorem ct_X8_shop {Ω : OT} (a0 : Nat) (x1 : Int32) (h0 : tg a0 = 8) (m0 : Mem) : Ct Ω yX8_shop cX8_shop 2 (some .int) 3 [.ref (oF Ω a0), .int x1] m0 (f_X8_shop a0 x1 m0) := by
  refine Ct_of (by decide) (Nat.le_of_ble_eq_true rfl) ?_
  intro K hK C Rr
  subst hK
  exact s_X8_shop C Rr  a0 x1 h0 m0
def X8_shopIs_J21   (a0 : Nat) (m0 : Mem) : Res :=
  cal (f_X8_error a0 (1 : Int32) m0) (fun r1 m2 =>
  some (r1, m2))
def f_X8_shopIs  (a0 : Nat) (x1 : Int32) (x2 : Int32) (m0 : Mem) : Res :=
  cal (f_X7_hasShop (a0 + 1) x1 m0) (fun r1 m2 =>
  (if r1 = 0 then
  X8_shopIs_J21 a0 m2
  else
  cal (f_X8_within x2 (0 : Int32) (15 : Int32) m2) (fun r3 m4 =>
  (if r3 = 0 then
  X8_shopIs_J21 a0 m4
  else
  cal (f_X7_factOf (a0 + 1) x1 x2 m4) (fun r5 m6 =>
  some (r5, m6))))))
set_option maxHeartbeats 2000000 in
theorem s_X8_shopIs_J21 {K : KT}  (C : Cx K cX8_shopIs RX8 3 5) (Rr : Rx K (some .int))    (a0 : Nat) (h0 : tg a0 = 8) (m0 : Mem) : G K 21 [(0, .ref (kf K a0))] [] m0 (X8_shopIs_J21 a0 m0) := by
  unfold X8_shopIs_J21
  refine g_aload_n C dX8_shopIs_21 0 rfl rfl ?_
  refine g_iconst C (1 : Int32) dX8_shopIs_22 rfl ?_
  refine g_callVi C cv_X8_error (ct_X8_error a0 (1 : Int32) h0 m0) q_344 h0 (by decide) rfl rfl (Nat.le_of_ble_eq_true rfl) dX8_shopIs_23 (fun r1 m2 => ?_)
  exact g_iret C Rr dX8_shopIs_26
set_option maxHeartbeats 2000000 in
theorem s_X8_shopIs {K : KT}  (C : Cx K cX8_shopIs RX8 3 5) (Rr : Rx K (some .int))  (a0 : Nat) (x1 : Int32) (x2 : Int32) (h0 : tg a0 = 8) (m0 : Mem) : G K 0 [(0, .ref (kf K a0)), (1, .int x1), (2, .int x2)] [] m0 (f_X8_shopIs a0 x1 x2 m0) := by
  unfold f_X8_shopIs
  refine g_aload_n C dX8_shopIs_0 0 rfl rfl ?_
  refine g_getr C 0 1 Fx8 h0 (by decide) rfl rfl q_306 dX8_shopIs_1 ?_
  refine g_iload_n C dX8_shopIs_4 1 rfl rfl ?_
  refine g_callVi C cv_X7_hasShop (ct_X7_hasShop (a0 + 1) x1 (cl_8_0 h0) m0) q_366 (cl_8_0 h0) (by decide) rfl rfl (Nat.le_of_ble_eq_true rfl) dX8_shopIs_5 (fun r1 m2 => ?_)
  refine g_if_eq C 21 dX8_shopIs_8 (by decide) (fun _ => ?_) (fun _ => ?_)
  · refine g_sub [0] rfl ?_
    exact s_X8_shopIs_J21 C Rr a0 h0 m2
  · refine g_iload_n C dX8_shopIs_11 2 rfl rfl ?_
    refine g_iconst C (0 : Int32) dX8_shopIs_12 rfl ?_
    refine g_bipush C (15 : Int32) dX8_shopIs_13 rfl ?_
    refine g_callSi C cv_X8_within q_342 (ct_X8_within x2 (0 : Int32) (15 : Int32)  m2) q_341 (by decide) rfl rfl (Nat.le_of_ble_eq_true rfl) dX8_shopIs_15 (fun r3 m4 => ?_)
    refine g_if_ne C 27 dX8_shopIs_18 (by decide) (fun _ => ?_) (fun _ => ?_)
    · refine g_aload_n C dX8_shopIs_27 0 rfl rfl ?_
      refine g_getr C 0 1 Fx8 h0 (by decide) rfl rfl q_306 dX8_shopIs_28 ?_
      refine g_iload_n C dX8_shopIs_31 1 rfl rfl ?_
      refine g_iload_n C dX8_shopIs_32 2 rfl rfl ?_
      refine g_callVi C cv_X7_factOf (ct_X7_factOf (a0 + 1) x1 x2 (cl_8_0 h0) m4) q_371 (cl_8_0 h0) (by decide) rfl rfl (Nat.le_of_ble_eq_true rfl) dX8_shopIs_33 (fun r5 m6 => ?_)
      exact g_iret C Rr dX8_shopIs_36
    · refine g_sub [0] rfl ?_
      exact s_X8_shopIs_J21 C Rr a0 h0 m4
theorem ct_X8_shopIs {Ω : OT} (a0 : Nat) (x1 : Int32) (x2 : Int32) (h0 : tg a0 = 8) (m0 : Mem) : Ct Ω yX8_shopIs cX8_shopIs 3 (some .int) 5 [.ref (oF Ω a0), .int x1, .int x2] m0 (f_X8_shopIs a0 x1 x2 m0) := by
  refine Ct_of (by decide) (Nat.le_of_ble_eq_true rfl) ?_
  intro K hK C Rr
  subst hK
  exact s_X8_shopIs C Rr  a0 x1 x2 h0 m0
def X8_isUnder_J39    (m0 : Mem) : Res :=
  gd (isb (0 : Int32)) (some ((0 : Int32), m0))
def X8_isUnder_L4B  (k4 : Int32 → Int32 → Int32 → Mem → Res) (x1 : Int32) (x2 : Int32) (x3 : Int32) (m0 : Mem) : Res :=
  (if (7 : Int32) ≤ x3 then
  X8_isUnder_J39 m0
  else
  cal (f_X8_within x2 (0 : Int32) (6 : Int32) m0) (fun r1 m2 =>
  (if r1 = 0 then
  X8_isUnder_J39 m2
  else
  (if x2 = x1 then
  gd (isb (1 : Int32)) (some ((1 : Int32), m2))
  else
  gd (inb x2 7) (
  bnd (aboveF x2.toNatClampNeg) (fun y3 =>
  bnd (x3 + (1 : Int32)) (fun y4 =>
  k4 x1 y3 y4 m2)))))))
def X8_isUnder_L4   : Nat → Int32 → Int32 → Int32 → Mem → Res
  | 0 => fun _ _ _ _ => none
  | n + 1 => X8_isUnder_L4B (X8_isUnder_L4 n)
def f_X8_isUnder  (x0 : Int32) (x1 : Int32) (m0 : Mem) : Res :=
  X8_isUnder_L4 FU x1 x0 (0 : Int32) m0
set_option maxHeartbeats 2000000 in
theorem s_X8_isUnder_J39 {K : KT}  (C : Cx K cX8_isUnder RX8 4 2) (Rr : Rx K (some .boolean))      (m0 : Mem) : G K 39 [] [] m0 (X8_isUnder_J39 m0) := by
  unfold X8_isUnder_J39
  refine g_iconst C (0 : Int32) dX8_isUnder_39 rfl ?_
  exact g_zret C Rr dX8_isUnder_40
set_option maxHeartbeats 2000000 in
theorem s_X8_isUnder_L4B {K : KT}  (C : Cx K cX8_isUnder RX8 4 2) (Rr : Rx K (some .boolean))  {k4 : Int32 → Int32 → Int32 → Mem → Res} (hk4 : ∀ (x1 : Int32) (x2 : Int32) (x3 : Int32)  (m0 : Mem), G K 4 [(1, .int x1), (2, .int x2), (3, .int x3)] [] m0 (k4 x1 x2 x3 m0)) (x1 : Int32) (x2 : Int32) (x3 : Int32)  (m0 : Mem) : G K 4 [(1, .int x1), (2, .int x2), (3, .int x3)] [] m0 (X8_isUnder_L4B k4 x1 x2 x3 m0) := by
  unfold X8_isUnder_L4B
  refine g_iload_n C dX8_isUnder_4 2 rfl rfl ?_
  refine g_bipush C (7 : Int32) dX8_isUnder_5 rfl ?_
  refine g_icmp_ge C 39 dX8_isUnder_7 (by decide) (fun _ => ?_) (fun _ => ?_)
  · refine g_sub [] rfl ?_
    exact s_X8_isUnder_J39 C Rr m0
  · refine g_iload_n C dX8_isUnder_10 1 rfl rfl ?_
    refine g_iconst C (0 : Int32) dX8_isUnder_11 rfl ?_
    refine g_bipush C (6 : Int32) dX8_isUnder_12 rfl ?_
    refine g_callSi C cv_X8_within q_342 (ct_X8_within x2 (0 : Int32) (6 : Int32)  m0) q_341 (by decide) rfl rfl (Nat.le_of_ble_eq_true rfl) dX8_isUnder_14 (fun r1 m2 => ?_)
    refine g_if_eq C 39 dX8_isUnder_17 (by decide) (fun _ => ?_) (fun _ => ?_)
    · refine g_sub [] rfl ?_
      exact s_X8_isUnder_J39 C Rr m2
    · refine g_iload_n C dX8_isUnder_20 1 rfl rfl ?_
      refine g_iload_n C dX8_isUnder_21 0 rfl rfl ?_
      refine g_icmp_ne C 27 dX8_isUnder_22 (by decide) (fun _ => ?_) (fun _ => ?_)
      · refine g_above C q_398 dX8_isUnder_27 ?_
        refine g_iload_n C dX8_isUnder_30 1 rfl rfl ?_
        refine g_iald0 C dX8_isUnder_31 (fun _ => ?_)
        refine g_bnd (fun y3 => ?_)
        refine g_istore_n C dX8_isUnder_32 rfl (by decide) rfl ?_
        refine g_iinc (k := 2) C dX8_isUnder_33 rfl (w := (1 : Int32)) rfl (by decide) (fun v_ => [(3, .int v_), (2, .int y3), (1, .int x1)]) (fun _ => rfl) (fun y4 => ?_)
        refine g_goto C 4 dX8_isUnder_36 (by decide) ?_
        refine g_sub [2, 1, 0] rfl ?_
        exact hk4 x1 y3 y4 m2
      · refine g_iconst C (1 : Int32) dX8_isUnder_25 rfl ?_
        exact g_zret C Rr dX8_isUnder_26
theorem s_X8_isUnder_L4 {K : KT}  (C : Cx K cX8_isUnder RX8 4 2) (Rr : Rx K (some .boolean))    : ∀ (n : Nat) (x1 : Int32) (x2 : Int32) (x3 : Int32)  (m0 : Mem), G K 4 [(1, .int x1), (2, .int x2), (3, .int x3)] [] m0 (X8_isUnder_L4 n x1 x2 x3 m0) := by
  intro n
  induction n with
  | zero => intros; exact g_none
  | succ n ih =>
    intro x1 x2 x3 m0
    exact s_X8_isUnder_L4B C Rr  ih x1 x2 x3 m0
set_option maxHeartbeats 2000000 in
theorem s_X8_isUnder {K : KT}  (C : Cx K cX8_isUnder RX8 4 2) (Rr : Rx K (some .boolean))  (x0 : Int32) (x1 : Int32)  (m0 : Mem) : G K 0 [(0, .int x0), (1, .int x1)] [] m0 (f_X8_isUnder x0 x1 m0) := by
  unfold f_X8_isUnder
  refine g_iload_n C dX8_isUnder_0 0 rfl rfl ?_
  refine g_istore_n C dX8_isUnder_1 rfl (by decide) rfl ?_
  refine g_iconst C (0 : Int32) dX8_isUnder_2 rfl ?_
  refine g_istore_n C dX8_isUnder_3 rfl (by decide) rfl ?_
  refine g_sub [3, 1, 0] rfl ?_
  exact s_X8_isUnder_L4 C Rr FU x1 x0 (0 : Int32) m0
theorem ct_X8_isUnder {Ω : OT} (x0 : Int32) (x1 : Int32)  (m0 : Mem) : Ct Ω yX8_isUnder cX8_isUnder 4 (some .boolean) 2 [.int x0, .int x1] m0 (f_X8_isUnder x0 x1 m0) := by
  refine Ct_of (by decide) (Nat.le_of_ble_eq_true rfl) ?_
  intro K hK C Rr
  subst hK
  exact s_X8_isUnder C Rr  x0 x1 m0
def X8_as_J21   (a0 : Nat) (m0 : Mem) : Res :=
  cal (f_X8_error a0 (1 : Int32) m0) (fun r1 m2 =>
  some (r1, m2))
def f_X8_as  (a0 : Nat) (x1 : Int32) (x2 : Int32) (m0 : Mem) : Res :=
  cal (f_X7_hasShop (a0 + 1) x1 m0) (fun r1 m2 =>
  (if r1 = 0 then
  X8_as_J21 a0 m2
  else
  cal (f_X8_within x2 (0 : Int32) (6 : Int32) m2) (fun r3 m4 =>
  (if r3 = 0 then
  X8_as_J21 a0 m4
  else
  gd (inb x1 6) (
  cal (f_X8_isUnder (m4 (((a0 + 1) + 2) + 5 + 3 * x1.toNatClampNeg) 0) x2 m4) (fun r6 m7 =>
  (if r6 = 0 then
  cal (f_X8_error a0 (5 : Int32) m7) (fun r9 m10 =>
  some (r9, m10))
  else
  gd (inb x1 6) (
  some (m7 (((a0 + 1) + 2) + 5 + 3 * x1.toNatClampNeg) 2, m7)))))))))
set_option maxHeartbeats 2000000 in
theorem s_X8_as_J21 {K : KT}  (C : Cx K cX8_as RX8 3 3) (Rr : Rx K (some .int))    (a0 : Nat) (h0 : tg a0 = 8) (m0 : Mem) : G K 21 [(0, .ref (kf K a0))] [] m0 (X8_as_J21 a0 m0) := by
  unfold X8_as_J21
  refine g_aload_n C dX8_as_21 0 rfl rfl ?_
  refine g_iconst C (1 : Int32) dX8_as_22 rfl ?_
  refine g_callVi C cv_X8_error (ct_X8_error a0 (1 : Int32) h0 m0) q_344 h0 (by decide) rfl rfl (Nat.le_of_ble_eq_true rfl) dX8_as_23 (fun r1 m2 => ?_)
  exact g_iret C Rr dX8_as_26
set_option maxHeartbeats 2000000 in
theorem s_X8_as {K : KT}  (C : Cx K cX8_as RX8 3 3) (Rr : Rx K (some .int))  (a0 : Nat) (x1 : Int32) (x2 : Int32) (h0 : tg a0 = 8) (m0 : Mem) : G K 0 [(0, .ref (kf K a0)), (1, .int x1), (2, .int x2)] [] m0 (f_X8_as a0 x1 x2 m0) := by
  unfold f_X8_as
  refine g_aload_n C dX8_as_0 0 rfl rfl ?_
  refine g_getr C 0 1 Fx8 h0 (by decide) rfl rfl q_306 dX8_as_1 ?_
  refine g_iload_n C dX8_as_4 1 rfl rfl ?_
  refine g_callVi C cv_X7_hasShop (ct_X7_hasShop (a0 + 1) x1 (cl_8_0 h0) m0) q_366 (cl_8_0 h0) (by decide) rfl rfl (Nat.le_of_ble_eq_true rfl) dX8_as_5 (fun r1 m2 => ?_)
  refine g_if_eq C 21 dX8_as_8 (by decide) (fun _ => ?_) (fun _ => ?_)
  · refine g_sub [0] rfl ?_
    exact s_X8_as_J21 C Rr a0 h0 m2
  · refine g_iload_n C dX8_as_11 2 rfl rfl ?_
    refine g_iconst C (0 : Int32) dX8_as_12 rfl ?_
    refine g_bipush C (6 : Int32) dX8_as_13 rfl ?_
    refine g_callSi C cv_X8_within q_342 (ct_X8_within x2 (0 : Int32) (6 : Int32)  m2) q_341 (by decide) rfl rfl (Nat.le_of_ble_eq_true rfl) dX8_as_15 (fun r3 m4 => ?_)
    refine g_if_ne C 27 dX8_as_18 (by decide) (fun _ => ?_) (fun _ => ?_)
    · refine g_aload_n C dX8_as_27 0 rfl rfl ?_
      refine g_getr C 0 1 Fx8 h0 (by decide) rfl rfl q_306 dX8_as_28 ?_
      refine g_getr C 3 2 Fx7 (cl_8_0 h0) (by decide) rfl rfl q_133 dX8_as_31 ?_
      refine g_iload_n C dX8_as_34 1 rfl rfl ?_
      refine g_aald10 C (cl_7_3 (cl_8_0 h0)) dX8_as_35 (fun g5 => ?_)
      refine g_geti C 0 Fx5 (ca_10 (cl_7_3 (cl_8_0 h0)) g5) (by decide) rfl rfl q_51 dX8_as_36 ?_
      refine g_iload_n C dX8_as_39 2 rfl rfl ?_
      refine g_callSi C cv_X8_isUnder q_396 (ct_X8_isUnder (m4 (((a0 + 1) + 2) + 5 + 3 * x1.toNatClampNeg) 0) x2  m4) q_395 (by decide) rfl rfl (Nat.le_of_ble_eq_true rfl) dX8_as_40 (fun r6 m7 => ?_)
      refine g_if_ne C 52 dX8_as_43 (by decide) (fun _ => ?_) (fun _ => ?_)
      · refine g_aload_n C dX8_as_52 0 rfl rfl ?_
        refine g_getr C 0 1 Fx8 h0 (by decide) rfl rfl q_306 dX8_as_53 ?_
        refine g_getr C 3 2 Fx7 (cl_8_0 h0) (by decide) rfl rfl q_133 dX8_as_56 ?_
        refine g_iload_n C dX8_as_59 1 rfl rfl ?_
        refine g_aald10 C (cl_7_3 (cl_8_0 h0)) dX8_as_60 (fun g8 => ?_)
        refine g_geti C 2 Fx5 (ca_10 (cl_7_3 (cl_8_0 h0)) g8) (by decide) rfl rfl q_57 dX8_as_61 ?_
        exact g_iret C Rr dX8_as_64
      · refine g_aload_n C dX8_as_46 0 rfl rfl ?_
        refine g_iconst C (5 : Int32) dX8_as_47 rfl ?_
        refine g_callVi C cv_X8_error (ct_X8_error a0 (5 : Int32) h0 m7) q_344 h0 (by decide) rfl rfl (Nat.le_of_ble_eq_true rfl) dX8_as_48 (fun r9 m10 => ?_)
        exact g_iret C Rr dX8_as_51
    · refine g_sub [0] rfl ?_
      exact s_X8_as_J21 C Rr a0 h0 m4
theorem ct_X8_as {Ω : OT} (a0 : Nat) (x1 : Int32) (x2 : Int32) (h0 : tg a0 = 8) (m0 : Mem) : Ct Ω yX8_as cX8_as 3 (some .int) 3 [.ref (oF Ω a0), .int x1, .int x2] m0 (f_X8_as a0 x1 x2 m0) := by
  refine Ct_of (by decide) (Nat.le_of_ble_eq_true rfl) ?_
  intro K hK C Rr
  subst hK
  exact s_X8_as C Rr  a0 x1 x2 h0 m0
def X8_mostOf_J45   (xs0 : Int32) (m0 : Mem) : Res :=
  some (xs0, m0)
def f_X8_mostOf  (x0 : Int32) (m0 : Mem) : Res :=
  (if x0 = 0 then
  some ((6 : Int32), m0)
  else
  (if x0 = (1 : Int32) then
  some ((9 : Int32), m0)
  else
  cal (f_X8_within x0 (3 : Int32) (8 : Int32) m0) (fun r1 m2 =>
  (if r1 = 0 then
  cal (f_X8_within x0 (9 : Int32) (14 : Int32) m2) (fun r3 m4 =>
  (if r3 = 0 then
  X8_mostOf_J45 (-1 : Int32) m4
  else
  X8_mostOf_J45 (99 : Int32) m4))
  else
  some ((9 : Int32), m2)))))
set_option maxHeartbeats 2000000 in
theorem s_X8_mostOf_J45 {K : KT}  (C : Cx K cX8_mostOf RX8 1 2) (Rr : Rx K (some .int))    (xs0 : Int32)  (m0 : Mem) : G K 45 [] [.int xs0] m0 (X8_mostOf_J45 xs0 m0) := by
  unfold X8_mostOf_J45
  exact g_iret C Rr dX8_mostOf_45
set_option maxHeartbeats 2000000 in
theorem s_X8_mostOf {K : KT}  (C : Cx K cX8_mostOf RX8 1 2) (Rr : Rx K (some .int))  (x0 : Int32)  (m0 : Mem) : G K 0 [(0, .int x0)] [] m0 (f_X8_mostOf x0 m0) := by
  unfold f_X8_mostOf
  refine g_iload_n C dX8_mostOf_0 0 rfl rfl ?_
  refine g_if_ne C 7 dX8_mostOf_1 (by decide) (fun _ => ?_) (fun _ => ?_)
  · refine g_iload_n C dX8_mostOf_7 0 rfl rfl ?_
    refine g_iconst C (1 : Int32) dX8_mostOf_8 rfl ?_
    refine g_icmp_ne C 15 dX8_mostOf_9 (by decide) (fun _ => ?_) (fun _ => ?_)
    · refine g_iload_n C dX8_mostOf_15 0 rfl rfl ?_
      refine g_iconst C (3 : Int32) dX8_mostOf_16 rfl ?_
      refine g_bipush C (8 : Int32) dX8_mostOf_17 rfl ?_
      refine g_callSi C cv_X8_within q_342 (ct_X8_within x0 (3 : Int32) (8 : Int32)  m0) q_341 (by decide) rfl rfl (Nat.le_of_ble_eq_true rfl) dX8_mostOf_19 (fun r1 m2 => ?_)
      refine g_if_eq C 28 dX8_mostOf_22 (by decide) (fun _ => ?_) (fun _ => ?_)
      · refine g_iload_n C dX8_mostOf_28 0 rfl rfl ?_
        refine g_bipush C (9 : Int32) dX8_mostOf_29 rfl ?_
        refine g_bipush C (14 : Int32) dX8_mostOf_31 rfl ?_
        refine g_callSi C cv_X8_within q_342 (ct_X8_within x0 (9 : Int32) (14 : Int32)  m2) q_341 (by decide) rfl rfl (Nat.le_of_ble_eq_true rfl) dX8_mostOf_33 (fun r3 m4 => ?_)
        refine g_if_eq C 44 dX8_mostOf_36 (by decide) (fun _ => ?_) (fun _ => ?_)
        · refine g_iconst C (-1 : Int32) dX8_mostOf_44 rfl ?_
          refine g_sub [] rfl ?_
          exact s_X8_mostOf_J45 C Rr (-1 : Int32) m4
        · refine g_bipush C (99 : Int32) dX8_mostOf_39 rfl ?_
          refine g_goto C 45 dX8_mostOf_41 (by decide) ?_
          refine g_sub [] rfl ?_
          exact s_X8_mostOf_J45 C Rr (99 : Int32) m4
      · refine g_bipush C (9 : Int32) dX8_mostOf_25 rfl ?_
        exact g_iret C Rr dX8_mostOf_27
    · refine g_bipush C (9 : Int32) dX8_mostOf_12 rfl ?_
      exact g_iret C Rr dX8_mostOf_14
  · refine g_bipush C (6 : Int32) dX8_mostOf_4 rfl ?_
    exact g_iret C Rr dX8_mostOf_6
theorem ct_X8_mostOf {Ω : OT} (x0 : Int32)  (m0 : Mem) : Ct Ω yX8_mostOf cX8_mostOf 1 (some .int) 2 [.int x0] m0 (f_X8_mostOf x0 m0) := by
  refine Ct_of (by decide) (Nat.le_of_ble_eq_true rfl) ?_
  intro K hK C Rr
  subst hK
  exact s_X8_mostOf C Rr  x0 m0
def X8_set_J23   (a0 : Nat) (m0 : Mem) : Res :=
  cal (f_X8_error a0 (1 : Int32) m0) (fun r1 m2 =>
  some (r1, m2))
def f_X8_set  (a0 : Nat) (x1 : Int32) (x2 : Int32) (x3 : Int32) (m0 : Mem) : Res :=
  cal (f_X7_hasShop (a0 + 1) x1 m0) (fun r1 m2 =>
  (if r1 = 0 then
  X8_set_J23 a0 m2
  else
  cal (f_X8_mostOf x2 m2) (fun r3 m4 =>
  cal (f_X8_within x3 (0 : Int32) r3 m4) (fun r5 m6 =>
  (if r5 = 0 then
  X8_set_J23 a0 m6
  else
  cal (f_X7_factOf (a0 + 1) x1 x2 m6) (fun r7 m8 =>
  gd (inb x1 6) (
  cal (f_X5_change (((a0 + 1) + 2) + 5 + 3 * x1.toNatClampNeg) x2 x3 m8) (fun r10 m11 =>
  some (r7, m11)))))))))
set_option maxHeartbeats 2000000 in
theorem s_X8_set_J23 {K : KT}  (C : Cx K cX8_set RX8 5 5) (Rr : Rx K (some .int))    (a0 : Nat) (h0 : tg a0 = 8) (m0 : Mem) : G K 23 [(0, .ref (kf K a0))] [] m0 (X8_set_J23 a0 m0) := by
  unfold X8_set_J23
  refine g_aload_n C dX8_set_23 0 rfl rfl ?_
  refine g_iconst C (1 : Int32) dX8_set_24 rfl ?_
  refine g_callVi C cv_X8_error (ct_X8_error a0 (1 : Int32) h0 m0) q_344 h0 (by decide) rfl rfl (Nat.le_of_ble_eq_true rfl) dX8_set_25 (fun r1 m2 => ?_)
  exact g_iret C Rr dX8_set_28
set_option maxHeartbeats 2000000 in
theorem s_X8_set {K : KT}  (C : Cx K cX8_set RX8 5 5) (Rr : Rx K (some .int))  (a0 : Nat) (x1 : Int32) (x2 : Int32) (x3 : Int32) (h0 : tg a0 = 8) (m0 : Mem) : G K 0 [(0, .ref (kf K a0)), (1, .int x1), (2, .int x2), (3, .int x3)] [] m0 (f_X8_set a0 x1 x2 x3 m0) := by
  unfold f_X8_set
  refine g_aload_n C dX8_set_0 0 rfl rfl ?_
  refine g_getr C 0 1 Fx8 h0 (by decide) rfl rfl q_306 dX8_set_1 ?_
  refine g_iload_n C dX8_set_4 1 rfl rfl ?_
  refine g_callVi C cv_X7_hasShop (ct_X7_hasShop (a0 + 1) x1 (cl_8_0 h0) m0) q_366 (cl_8_0 h0) (by decide) rfl rfl (Nat.le_of_ble_eq_true rfl) dX8_set_5 (fun r1 m2 => ?_)
  refine g_if_eq C 23 dX8_set_8 (by decide) (fun _ => ?_) (fun _ => ?_)
  · refine g_sub [0] rfl ?_
    exact s_X8_set_J23 C Rr a0 h0 m2
  · refine g_iload_n C dX8_set_11 3 rfl rfl ?_
    refine g_iconst C (0 : Int32) dX8_set_12 rfl ?_
    refine g_iload_n C dX8_set_13 2 rfl rfl ?_
    refine g_callSi C cv_X8_mostOf q_405 (ct_X8_mostOf x2  m2) q_404 (by decide) rfl rfl (Nat.le_of_ble_eq_true rfl) dX8_set_14 (fun r3 m4 => ?_)
    refine g_callSi C cv_X8_within q_342 (ct_X8_within x3 (0 : Int32) r3  m4) q_341 (by decide) rfl rfl (Nat.le_of_ble_eq_true rfl) dX8_set_17 (fun r5 m6 => ?_)
    refine g_if_ne C 29 dX8_set_20 (by decide) (fun _ => ?_) (fun _ => ?_)
    · refine g_aload_n C dX8_set_29 0 rfl rfl ?_
      refine g_getr C 0 1 Fx8 h0 (by decide) rfl rfl q_306 dX8_set_30 ?_
      refine g_iload_n C dX8_set_33 1 rfl rfl ?_
      refine g_iload_n C dX8_set_34 2 rfl rfl ?_
      refine g_callVi C cv_X7_factOf (ct_X7_factOf (a0 + 1) x1 x2 (cl_8_0 h0) m6) q_371 (cl_8_0 h0) (by decide) rfl rfl (Nat.le_of_ble_eq_true rfl) dX8_set_35 (fun r7 m8 => ?_)
      refine g_istore C dX8_set_38 (by decide) rfl ?_
      refine g_aload_n C dX8_set_40 1 rfl rfl ?_
      refine g_getr C 0 1 Fx8 h0 (by decide) rfl rfl q_306 dX8_set_41 ?_
      refine g_getr C 3 2 Fx7 (cl_8_0 h0) (by decide) rfl rfl q_133 dX8_set_44 ?_
      refine g_iload_n C dX8_set_47 2 rfl rfl ?_
      refine g_aald10 C (cl_7_3 (cl_8_0 h0)) dX8_set_48 (fun g9 => ?_)
      refine g_iload_n C dX8_set_49 3 rfl rfl ?_
      refine g_iload_n C dX8_set_50 4 rfl rfl ?_
      refine g_callVv C cv_X5_change (ct_X5_change (((a0 + 1) + 2) + 5 + 3 * x1.toNatClampNeg) x2 x3 (ca_10 (cl_7_3 (cl_8_0 h0)) g9) m8) q_407 (ca_10 (cl_7_3 (cl_8_0 h0)) g9) (by decide) rfl rfl (Nat.le_of_ble_eq_true rfl) dX8_set_51 (fun r10 m11 => ?_)
      refine g_iload C dX8_set_54 0 rfl ?_
      exact g_iret C Rr dX8_set_56
    · refine g_sub [0] rfl ?_
      exact s_X8_set_J23 C Rr a0 h0 m6
theorem ct_X8_set {Ω : OT} (a0 : Nat) (x1 : Int32) (x2 : Int32) (x3 : Int32) (h0 : tg a0 = 8) (m0 : Mem) : Ct Ω yX8_set cX8_set 5 (some .int) 5 [.ref (oF Ω a0), .int x1, .int x2, .int x3] m0 (f_X8_set a0 x1 x2 x3 m0) := by
  refine Ct_of (by decide) (Nat.le_of_ble_eq_true rfl) ?_
  intro K hK C Rr
  subst hK
  exact s_X8_set C Rr  a0 x1 x2 x3 h0 m0
def X8_price_J18   (a0 : Nat) (m0 : Mem) : Res :=
  cal (f_X8_error a0 (1 : Int32) m0) (fun r1 m2 =>
  some (r1, m2))
def f_X8_price  (a0 : Nat) (x1 : Int32) (x2 : Int32) (m0 : Mem) : Res :=
  cal (f_X7_hasShop (a0 + 1) x1 m0) (fun r1 m2 =>
  (if r1 = 0 then
  X8_price_J18 a0 m2
  else
  cal (f_X8_isGood x2 m2) (fun r3 m4 =>
  (if r3 = 0 then
  X8_price_J18 a0 m4
  else
  cal (f_X7_priceOf (a0 + 1) x1 x2 m4) (fun r5 m6 =>
  some (r5, m6))))))
set_option maxHeartbeats 2000000 in
theorem s_X8_price_J18 {K : KT}  (C : Cx K cX8_price RX8 3 4) (Rr : Rx K (some .int))    (a0 : Nat) (h0 : tg a0 = 8) (m0 : Mem) : G K 18 [(0, .ref (kf K a0))] [] m0 (X8_price_J18 a0 m0) := by
  unfold X8_price_J18
  refine g_aload_n C dX8_price_18 0 rfl rfl ?_
  refine g_iconst C (1 : Int32) dX8_price_19 rfl ?_
  refine g_callVi C cv_X8_error (ct_X8_error a0 (1 : Int32) h0 m0) q_344 h0 (by decide) rfl rfl (Nat.le_of_ble_eq_true rfl) dX8_price_20 (fun r1 m2 => ?_)
  exact g_iret C Rr dX8_price_23
set_option maxHeartbeats 2000000 in
theorem s_X8_price {K : KT}  (C : Cx K cX8_price RX8 3 4) (Rr : Rx K (some .int))  (a0 : Nat) (x1 : Int32) (x2 : Int32) (h0 : tg a0 = 8) (m0 : Mem) : G K 0 [(0, .ref (kf K a0)), (1, .int x1), (2, .int x2)] [] m0 (f_X8_price a0 x1 x2 m0) := by
  unfold f_X8_price
  refine g_aload_n C dX8_price_0 0 rfl rfl ?_
  refine g_getr C 0 1 Fx8 h0 (by decide) rfl rfl q_306 dX8_price_1 ?_
  refine g_iload_n C dX8_price_4 1 rfl rfl ?_
  refine g_callVi C cv_X7_hasShop (ct_X7_hasShop (a0 + 1) x1 (cl_8_0 h0) m0) q_366 (cl_8_0 h0) (by decide) rfl rfl (Nat.le_of_ble_eq_true rfl) dX8_price_5 (fun r1 m2 => ?_)
  refine g_if_eq C 18 dX8_price_8 (by decide) (fun _ => ?_) (fun _ => ?_)
  · refine g_sub [0] rfl ?_
    exact s_X8_price_J18 C Rr a0 h0 m2
  · refine g_iload_n C dX8_price_11 2 rfl rfl ?_
    refine g_callSi C cv_X8_isGood q_339 (ct_X8_isGood x2  m2) q_338 (by decide) rfl rfl (Nat.le_of_ble_eq_true rfl) dX8_price_12 (fun r3 m4 => ?_)
    refine g_if_ne C 24 dX8_price_15 (by decide) (fun _ => ?_) (fun _ => ?_)
    · refine g_aload_n C dX8_price_24 0 rfl rfl ?_
      refine g_getr C 0 1 Fx8 h0 (by decide) rfl rfl q_306 dX8_price_25 ?_
      refine g_iload_n C dX8_price_28 1 rfl rfl ?_
      refine g_iload_n C dX8_price_29 2 rfl rfl ?_
      refine g_callVi C cv_X7_priceOf (ct_X7_priceOf (a0 + 1) x1 x2 (cl_8_0 h0) m4) q_416 (cl_8_0 h0) (by decide) rfl rfl (Nat.le_of_ble_eq_true rfl) dX8_price_30 (fun r5 m6 => ?_)
      exact g_iret C Rr dX8_price_33
    · refine g_sub [0] rfl ?_
      exact s_X8_price_J18 C Rr a0 h0 m4
theorem ct_X8_price {Ω : OT} (a0 : Nat) (x1 : Int32) (x2 : Int32) (h0 : tg a0 = 8) (m0 : Mem) : Ct Ω yX8_price cX8_price 3 (some .int) 4 [.ref (oF Ω a0), .int x1, .int x2] m0 (f_X8_price a0 x1 x2 m0) := by
  refine Ct_of (by decide) (Nat.le_of_ble_eq_true rfl) ?_
  intro K hK C Rr
  subst hK
  exact s_X8_price C Rr  a0 x1 x2 h0 m0
def X8_fills_J18   (a0 : Nat) (m0 : Mem) : Res :=
  cal (f_X8_error a0 (1 : Int32) m0) (fun r1 m2 =>
  some (r1, m2))
def f_X8_fills  (a0 : Nat) (x1 : Int32) (x2 : Int32) (m0 : Mem) : Res :=
  cal (f_X7_hasShop (a0 + 1) x1 m0) (fun r1 m2 =>
  (if r1 = 0 then
  X8_fills_J18 a0 m2
  else
  cal (f_X8_isGood x2 m2) (fun r3 m4 =>
  (if r3 = 0 then
  X8_fills_J18 a0 m4
  else
  cal (f_X7_fillOf (a0 + 1) x1 x2 m4) (fun r5 m6 =>
  some (r5, m6))))))
set_option maxHeartbeats 2000000 in
theorem s_X8_fills_J18 {K : KT}  (C : Cx K cX8_fills RX8 3 4) (Rr : Rx K (some .int))    (a0 : Nat) (h0 : tg a0 = 8) (m0 : Mem) : G K 18 [(0, .ref (kf K a0))] [] m0 (X8_fills_J18 a0 m0) := by
  unfold X8_fills_J18
  refine g_aload_n C dX8_fills_18 0 rfl rfl ?_
  refine g_iconst C (1 : Int32) dX8_fills_19 rfl ?_
  refine g_callVi C cv_X8_error (ct_X8_error a0 (1 : Int32) h0 m0) q_344 h0 (by decide) rfl rfl (Nat.le_of_ble_eq_true rfl) dX8_fills_20 (fun r1 m2 => ?_)
  exact g_iret C Rr dX8_fills_23
set_option maxHeartbeats 2000000 in
theorem s_X8_fills {K : KT}  (C : Cx K cX8_fills RX8 3 4) (Rr : Rx K (some .int))  (a0 : Nat) (x1 : Int32) (x2 : Int32) (h0 : tg a0 = 8) (m0 : Mem) : G K 0 [(0, .ref (kf K a0)), (1, .int x1), (2, .int x2)] [] m0 (f_X8_fills a0 x1 x2 m0) := by
  unfold f_X8_fills
  refine g_aload_n C dX8_fills_0 0 rfl rfl ?_
  refine g_getr C 0 1 Fx8 h0 (by decide) rfl rfl q_306 dX8_fills_1 ?_
  refine g_iload_n C dX8_fills_4 1 rfl rfl ?_
  refine g_callVi C cv_X7_hasShop (ct_X7_hasShop (a0 + 1) x1 (cl_8_0 h0) m0) q_366 (cl_8_0 h0) (by decide) rfl rfl (Nat.le_of_ble_eq_true rfl) dX8_fills_5 (fun r1 m2 => ?_)
  refine g_if_eq C 18 dX8_fills_8 (by decide) (fun _ => ?_) (fun _ => ?_)
  · refine g_sub [0] rfl ?_
    exact s_X8_fills_J18 C Rr a0 h0 m2
  · refine g_iload_n C dX8_fills_11 2 rfl rfl ?_
    refine g_callSi C cv_X8_isGood q_339 (ct_X8_isGood x2  m2) q_338 (by decide) rfl rfl (Nat.le_of_ble_eq_true rfl) dX8_fills_12 (fun r3 m4 => ?_)
    refine g_if_ne C 24 dX8_fills_15 (by decide) (fun _ => ?_) (fun _ => ?_)
    · refine g_aload_n C dX8_fills_24 0 rfl rfl ?_
      refine g_getr C 0 1 Fx8 h0 (by decide) rfl rfl q_306 dX8_fills_25 ?_
      refine g_iload_n C dX8_fills_28 1 rfl rfl ?_
      refine g_iload_n C dX8_fills_29 2 rfl rfl ?_
      refine g_callVi C cv_X7_fillOf (ct_X7_fillOf (a0 + 1) x1 x2 (cl_8_0 h0) m4) q_441 (cl_8_0 h0) (by decide) rfl rfl (Nat.le_of_ble_eq_true rfl) dX8_fills_30 (fun r5 m6 => ?_)
      exact g_iret C Rr dX8_fills_33
    · refine g_sub [0] rfl ?_
      exact s_X8_fills_J18 C Rr a0 h0 m4
theorem ct_X8_fills {Ω : OT} (a0 : Nat) (x1 : Int32) (x2 : Int32) (h0 : tg a0 = 8) (m0 : Mem) : Ct Ω yX8_fills cX8_fills 3 (some .int) 4 [.ref (oF Ω a0), .int x1, .int x2] m0 (f_X8_fills a0 x1 x2 m0) := by
  refine Ct_of (by decide) (Nat.le_of_ble_eq_true rfl) ?_
  intro K hK C Rr
  subst hK
  exact s_X8_fills C Rr  a0 x1 x2 h0 m0
def X8_isCustomer_J55   (xs0 : Int32) (m0 : Mem) : Res :=
  gd (isb xs0) (some (xs0, m0))
def X8_isCustomer_J54    (m0 : Mem) : Res :=
  X8_isCustomer_J55 (0 : Int32) m0
def X8_isCustomer_J24   (x0 : Int32) (x2 : Int32) (xs0 : Int32) (m0 : Mem) : Res :=
  cal (f_X8_within x0 (0 : Int32) (63 : Int32) m0) (fun r1 m2 =>
  (if r1 = 0 then
  X8_isCustomer_J54 m2
  else
  (if xs0 = 0 then
  X8_isCustomer_J54 m2
  else
  cal (f_X8_within x2 (0 : Int32) (999 : Int32) m2) (fun r3 m4 =>
  (if r3 = 0 then
  X8_isCustomer_J54 m4
  else
  X8_isCustomer_J55 (1 : Int32) m4)))))
def X8_isCustomer_J23   (x0 : Int32) (x2 : Int32) (m0 : Mem) : Res :=
  X8_isCustomer_J24 x0 x2 (0 : Int32) m0
def f_X8_isCustomer  (x0 : Int32) (x1 : Int32) (x2 : Int32) (m0 : Mem) : Res :=
  cal (f_X8_within x1 (10 : Int32) (121 : Int32) m0) (fun r1 m2 =>
  (if r1 = 0 then
  X8_isCustomer_J23 x0 x2 m2
  else
  gd (!((10 : Int32) == 0)) (
  (if (1 : Int32) < (irm x1 (10 : Int32)) then
  X8_isCustomer_J23 x0 x2 m2
  else
  X8_isCustomer_J24 x0 x2 (1 : Int32) m2))))
set_option maxHeartbeats 2000000 in
theorem s_X8_isCustomer_J55 {K : KT}  (C : Cx K cX8_isCustomer RX8 4 2) (Rr : Rx K (some .boolean))    (xs0 : Int32)  (m0 : Mem) : G K 55 [] [.int xs0] m0 (X8_isCustomer_J55 xs0 m0) := by
  unfold X8_isCustomer_J55
  exact g_zret C Rr dX8_isCustomer_55
set_option maxHeartbeats 2000000 in
theorem s_X8_isCustomer_J54 {K : KT}  (C : Cx K cX8_isCustomer RX8 4 2) (Rr : Rx K (some .boolean))      (m0 : Mem) : G K 54 [] [] m0 (X8_isCustomer_J54 m0) := by
  unfold X8_isCustomer_J54
  refine g_iconst C (0 : Int32) dX8_isCustomer_54 rfl ?_
  refine g_sub [] rfl ?_
  exact s_X8_isCustomer_J55 C Rr (0 : Int32) m0
set_option maxHeartbeats 2000000 in
theorem s_X8_isCustomer_J24 {K : KT}  (C : Cx K cX8_isCustomer RX8 4 2) (Rr : Rx K (some .boolean))    (x0 : Int32) (x2 : Int32) (xs0 : Int32)  (m0 : Mem) : G K 24 [(0, .int x0), (2, .int x2)] [.int xs0] m0 (X8_isCustomer_J24 x0 x2 xs0 m0) := by
  unfold X8_isCustomer_J24
  refine g_istore_n C dX8_isCustomer_24 rfl (by decide) rfl ?_
  refine g_iload_n C dX8_isCustomer_25 1 rfl rfl ?_
  refine g_iconst C (0 : Int32) dX8_isCustomer_26 rfl ?_
  refine g_bipush C (63 : Int32) dX8_isCustomer_27 rfl ?_
  refine g_callSi C cv_X8_within q_342 (ct_X8_within x0 (0 : Int32) (63 : Int32)  m0) q_341 (by decide) rfl rfl (Nat.le_of_ble_eq_true rfl) dX8_isCustomer_29 (fun r1 m2 => ?_)
  refine g_if_eq C 54 dX8_isCustomer_32 (by decide) (fun _ => ?_) (fun _ => ?_)
  · refine g_sub [] rfl ?_
    exact s_X8_isCustomer_J54 C Rr m2
  · refine g_iload_n C dX8_isCustomer_35 0 rfl rfl ?_
    refine g_if_eq C 54 dX8_isCustomer_36 (by decide) (fun _ => ?_) (fun _ => ?_)
    · refine g_sub [] rfl ?_
      exact s_X8_isCustomer_J54 C Rr m2
    · refine g_iload_n C dX8_isCustomer_39 2 rfl rfl ?_
      refine g_iconst C (0 : Int32) dX8_isCustomer_40 rfl ?_
      refine g_sipush C (999 : Int32) dX8_isCustomer_41 rfl ?_
      refine g_callSi C cv_X8_within q_342 (ct_X8_within x2 (0 : Int32) (999 : Int32)  m2) q_341 (by decide) rfl rfl (Nat.le_of_ble_eq_true rfl) dX8_isCustomer_44 (fun r3 m4 => ?_)
      refine g_if_eq C 54 dX8_isCustomer_47 (by decide) (fun _ => ?_) (fun _ => ?_)
      · refine g_sub [] rfl ?_
        exact s_X8_isCustomer_J54 C Rr m4
      · refine g_iconst C (1 : Int32) dX8_isCustomer_50 rfl ?_
        refine g_goto C 55 dX8_isCustomer_51 (by decide) ?_
        refine g_sub [] rfl ?_
        exact s_X8_isCustomer_J55 C Rr (1 : Int32) m4
set_option maxHeartbeats 2000000 in
theorem s_X8_isCustomer_J23 {K : KT}  (C : Cx K cX8_isCustomer RX8 4 2) (Rr : Rx K (some .boolean))    (x0 : Int32) (x2 : Int32)  (m0 : Mem) : G K 23 [(0, .int x0), (2, .int x2)] [] m0 (X8_isCustomer_J23 x0 x2 m0) := by
  unfold X8_isCustomer_J23
  refine g_iconst C (0 : Int32) dX8_isCustomer_23 rfl ?_
  refine g_sub [0, 1] rfl ?_
  exact s_X8_isCustomer_J24 C Rr x0 x2 (0 : Int32) m0
set_option maxHeartbeats 2000000 in
theorem s_X8_isCustomer {K : KT}  (C : Cx K cX8_isCustomer RX8 4 2) (Rr : Rx K (some .boolean))  (x0 : Int32) (x1 : Int32) (x2 : Int32)  (m0 : Mem) : G K 0 [(0, .int x0), (1, .int x1), (2, .int x2)] [] m0 (f_X8_isCustomer x0 x1 x2 m0) := by
  unfold f_X8_isCustomer
  refine g_iload_n C dX8_isCustomer_0 1 rfl rfl ?_
  refine g_bipush C (10 : Int32) dX8_isCustomer_1 rfl ?_
  refine g_bipush C (121 : Int32) dX8_isCustomer_3 rfl ?_
  refine g_callSi C cv_X8_within q_342 (ct_X8_within x1 (10 : Int32) (121 : Int32)  m0) q_341 (by decide) rfl rfl (Nat.le_of_ble_eq_true rfl) dX8_isCustomer_5 (fun r1 m2 => ?_)
  refine g_if_eq C 23 dX8_isCustomer_8 (by decide) (fun _ => ?_) (fun _ => ?_)
  · refine g_sub [0, 2] rfl ?_
    exact s_X8_isCustomer_J23 C Rr x0 x2 m2
  · refine g_iload_n C dX8_isCustomer_11 1 rfl rfl ?_
    refine g_bipush C (10 : Int32) dX8_isCustomer_12 rfl ?_
    refine g_irem C dX8_isCustomer_14 (fun _ => ?_)
    refine g_iconst C (1 : Int32) dX8_isCustomer_15 rfl ?_
    refine g_icmp_gt C 23 dX8_isCustomer_16 (by decide) (fun _ => ?_) (fun _ => ?_)
    · refine g_sub [0, 2] rfl ?_
      exact s_X8_isCustomer_J23 C Rr x0 x2 m2
    · refine g_iconst C (1 : Int32) dX8_isCustomer_19 rfl ?_
      refine g_goto C 24 dX8_isCustomer_20 (by decide) ?_
      refine g_sub [0, 2] rfl ?_
      exact s_X8_isCustomer_J24 C Rr x0 x2 (1 : Int32) m2
theorem ct_X8_isCustomer {Ω : OT} (x0 : Int32) (x1 : Int32) (x2 : Int32)  (m0 : Mem) : Ct Ω yX8_isCustomer cX8_isCustomer 4 (some .boolean) 2 [.int x0, .int x1, .int x2] m0 (f_X8_isCustomer x0 x1 x2 m0) := by
  refine Ct_of (by decide) (Nat.le_of_ble_eq_true rfl) ?_
  intro K hK C Rr
  subst hK
  exact s_X8_isCustomer C Rr  x0 x1 x2 m0
def f_X8_customer  (a0 : Nat) (x1 : Int32) (x2 : Int32) (x3 : Int32) (m0 : Mem) : Res :=
  cal (f_X8_isCustomer x1 x2 x3 m0) (fun r1 m2 =>
  (if r1 = 0 then
  cal (f_X8_error a0 (1 : Int32) m2) (fun r7 m8 =>
  some (r7, m8))
  else
  (if (m2 (a0 + 1) 6) < (10 : Int32) then
  cal (f_X7_welcome (a0 + 1) x1 x2 x3 m2) (fun r3 m4 =>
  some ((m4 (a0 + 1) 6) - (1 : Int32), m4))
  else
  cal (f_X8_error a0 (4 : Int32) m2) (fun r5 m6 =>
  some (r5, m6)))))
set_option maxHeartbeats 2000000 in
theorem s_X8_customer {K : KT}  (C : Cx K cX8_customer RX8 4 3) (Rr : Rx K (some .int))  (a0 : Nat) (x1 : Int32) (x2 : Int32) (x3 : Int32) (h0 : tg a0 = 8) (m0 : Mem) : G K 0 [(0, .ref (kf K a0)), (1, .int x1), (2, .int x2), (3, .int x3)] [] m0 (f_X8_customer a0 x1 x2 x3 m0) := by
  unfold f_X8_customer
  refine g_iload_n C dX8_customer_0 1 rfl rfl ?_
  refine g_iload_n C dX8_customer_1 2 rfl rfl ?_
  refine g_iload_n C dX8_customer_2 3 rfl rfl ?_
  refine g_callSi C cv_X8_isCustomer q_453 (ct_X8_isCustomer x1 x2 x3  m0) q_452 (by decide) rfl rfl (Nat.le_of_ble_eq_true rfl) dX8_customer_3 (fun r1 m2 => ?_)
  refine g_if_ne C 15 dX8_customer_6 (by decide) (fun _ => ?_) (fun _ => ?_)
  · refine g_aload_n C dX8_customer_15 0 rfl rfl ?_
    refine g_getr C 0 1 Fx8 h0 (by decide) rfl rfl q_306 dX8_customer_16 ?_
    refine g_geti C 6 Fx7 (cl_8_0 h0) (by decide) rfl rfl q_140 dX8_customer_19 ?_
    refine g_bipush C (10 : Int32) dX8_customer_22 rfl ?_
    refine g_icmp_lt C 33 dX8_customer_24 (by decide) (fun _ => ?_) (fun _ => ?_)
    · refine g_aload_n C dX8_customer_33 0 rfl rfl ?_
      refine g_getr C 0 1 Fx8 h0 (by decide) rfl rfl q_306 dX8_customer_34 ?_
      refine g_iload_n C dX8_customer_37 1 rfl rfl ?_
      refine g_iload_n C dX8_customer_38 2 rfl rfl ?_
      refine g_iload_n C dX8_customer_39 3 rfl rfl ?_
      refine g_callVv C cv_X7_welcome (ct_X7_welcome (a0 + 1) x1 x2 x3 (cl_8_0 h0) m2) q_455 (cl_8_0 h0) (by decide) rfl rfl (Nat.le_of_ble_eq_true rfl) dX8_customer_40 (fun r3 m4 => ?_)
      refine g_aload_n C dX8_customer_43 0 rfl rfl ?_
      refine g_getr C 0 1 Fx8 h0 (by decide) rfl rfl q_306 dX8_customer_44 ?_
      refine g_geti C 6 Fx7 (cl_8_0 h0) (by decide) rfl rfl q_140 dX8_customer_47 ?_
      refine g_iconst C (1 : Int32) dX8_customer_50 rfl ?_
      refine g_isub C dX8_customer_51 ?_
      exact g_iret C Rr dX8_customer_52
    · refine g_aload_n C dX8_customer_27 0 rfl rfl ?_
      refine g_iconst C (4 : Int32) dX8_customer_28 rfl ?_
      refine g_callVi C cv_X8_error (ct_X8_error a0 (4 : Int32) h0 m2) q_344 h0 (by decide) rfl rfl (Nat.le_of_ble_eq_true rfl) dX8_customer_29 (fun r5 m6 => ?_)
      exact g_iret C Rr dX8_customer_32
  · refine g_aload_n C dX8_customer_9 0 rfl rfl ?_
    refine g_iconst C (1 : Int32) dX8_customer_10 rfl ?_
    refine g_callVi C cv_X8_error (ct_X8_error a0 (1 : Int32) h0 m2) q_344 h0 (by decide) rfl rfl (Nat.le_of_ble_eq_true rfl) dX8_customer_11 (fun r7 m8 => ?_)
    exact g_iret C Rr dX8_customer_14
theorem ct_X8_customer {Ω : OT} (a0 : Nat) (x1 : Int32) (x2 : Int32) (x3 : Int32) (h0 : tg a0 = 8) (m0 : Mem) : Ct Ω yX8_customer cX8_customer 4 (some .int) 3 [.ref (oF Ω a0), .int x1, .int x2, .int x3] m0 (f_X8_customer a0 x1 x2 x3 m0) := by
  refine Ct_of (by decide) (Nat.le_of_ble_eq_true rfl) ?_
  intro K hK C Rr
  subst hK
  exact s_X8_customer C Rr  a0 x1 x2 x3 h0 m0
def f_X8_customerIs  (a0 : Nat) (x1 : Int32) (x2 : Int32) (m0 : Mem) : Res :=
  cal (f_X7_hasCustomer (a0 + 1) x1 m0) (fun r1 m2 =>
  (if r1 = 0 then
  cal (f_X8_error a0 (1 : Int32) m2) (fun r10 m11 =>
  some (r10, m11))
  else
  gd (inb x1 10) (
  (if x2 = (0 : Int32) then
  some (m2 (((a0 + 1) + 3) + 22 + 1 * x1.toNatClampNeg) 0, m2)
  else
  if x2 = (1 : Int32) then
  some (m2 (((a0 + 1) + 3) + 22 + 1 * x1.toNatClampNeg) 1, m2)
  else
  if x2 = (2 : Int32) then
  some (m2 (((a0 + 1) + 3) + 22 + 1 * x1.toNatClampNeg) 2, m2)
  else
  if x2 = (3 : Int32) then
  some (m2 (((a0 + 1) + 3) + 22 + 1 * x1.toNatClampNeg) 3, m2)
  else
  cal (f_X8_error a0 (1 : Int32) m2) (fun r8 m9 =>
  some (r8, m9))))))
set_option maxHeartbeats 2000000 in
theorem s_X8_customerIs {K : KT}  (C : Cx K cX8_customerIs RX8 4 3) (Rr : Rx K (some .int))  (a0 : Nat) (x1 : Int32) (x2 : Int32) (h0 : tg a0 = 8) (m0 : Mem) : G K 0 [(0, .ref (kf K a0)), (1, .int x1), (2, .int x2)] [] m0 (f_X8_customerIs a0 x1 x2 m0) := by
  unfold f_X8_customerIs
  refine g_aload_n C dX8_customerIs_0 0 rfl rfl ?_
  refine g_getr C 0 1 Fx8 h0 (by decide) rfl rfl q_306 dX8_customerIs_1 ?_
  refine g_iload_n C dX8_customerIs_4 1 rfl rfl ?_
  refine g_callVi C cv_X7_hasCustomer (ct_X7_hasCustomer (a0 + 1) x1 (cl_8_0 h0) m0) q_463 (cl_8_0 h0) (by decide) rfl rfl (Nat.le_of_ble_eq_true rfl) dX8_customerIs_5 (fun r1 m2 => ?_)
  refine g_if_ne C 17 dX8_customerIs_8 (by decide) (fun _ => ?_) (fun _ => ?_)
  · refine g_aload_n C dX8_customerIs_17 0 rfl rfl ?_
    refine g_getr C 0 1 Fx8 h0 (by decide) rfl rfl q_306 dX8_customerIs_18 ?_
    refine g_getr C 5 3 Fx7 (cl_8_0 h0) (by decide) rfl rfl q_138 dX8_customerIs_21 ?_
    refine g_iload_n C dX8_customerIs_24 1 rfl rfl ?_
    refine g_aald11 C (cl_7_5 (cl_8_0 h0)) dX8_customerIs_25 (fun g3 => ?_)
    refine g_astore_n C dX8_customerIs_26 rfl (by decide) rfl ?_
    refine g_iload_n C dX8_customerIs_27 3 rfl rfl ?_
    refine g_tsw C 60 dX8_customerIs_28 (by decide) rfl (by decide) ?_ (fun e4 => ?_)
    · refine g_aload_n C dX8_customerIs_60 0 rfl rfl ?_
      refine g_geti C 0 Fx0 (ca_11 (cl_7_5 (cl_8_0 h0)) g3) (by decide) rfl rfl q_88 dX8_customerIs_61 ?_
      exact g_iret C Rr dX8_customerIs_64
    refine g_tsw C 65 dX8_customerIs_28 (by decide) rfl (by decide) ?_ (fun e5 => ?_)
    · refine g_aload_n C dX8_customerIs_65 0 rfl rfl ?_
      refine g_geti C 1 Fx0 (ca_11 (cl_7_5 (cl_8_0 h0)) g3) (by decide) rfl rfl q_91 dX8_customerIs_66 ?_
      exact g_iret C Rr dX8_customerIs_69
    refine g_tsw C 70 dX8_customerIs_28 (by decide) rfl (by decide) ?_ (fun e6 => ?_)
    · refine g_aload_n C dX8_customerIs_70 0 rfl rfl ?_
      refine g_geti C 2 Fx0 (ca_11 (cl_7_5 (cl_8_0 h0)) g3) (by decide) rfl rfl q_94 dX8_customerIs_71 ?_
      exact g_iret C Rr dX8_customerIs_74
    refine g_tsw C 75 dX8_customerIs_28 (by decide) rfl (by decide) ?_ (fun e7 => ?_)
    · refine g_aload_n C dX8_customerIs_75 0 rfl rfl ?_
      refine g_geti C 3 Fx0 (ca_11 (cl_7_5 (cl_8_0 h0)) g3) (by decide) rfl rfl q_97 dX8_customerIs_76 ?_
      exact g_iret C Rr dX8_customerIs_79
    refine g_tswd C 80 dX8_customerIs_28 (sw_out [(0 : Int32), (1 : Int32), (2 : Int32), (3 : Int32)] (by intro v hv; simp only [List.mem_cons, List.not_mem_nil, or_false] at hv; rcases hv with rfl | rfl | rfl | rfl <;> assumption) (fun i h1 h2 => by have hi : i = 0 ∨ i = 1 ∨ i = 2 ∨ i = 3 := (by omega); rcases hi with rfl | rfl | rfl | rfl <;> simp)) (by decide) ?_
    refine g_aload_n C dX8_customerIs_80 1 rfl rfl ?_
    refine g_iconst C (1 : Int32) dX8_customerIs_81 rfl ?_
    refine g_callVi C cv_X8_error (ct_X8_error a0 (1 : Int32) h0 m2) q_344 h0 (by decide) rfl rfl (Nat.le_of_ble_eq_true rfl) dX8_customerIs_82 (fun r8 m9 => ?_)
    exact g_iret C Rr dX8_customerIs_85
  · refine g_aload_n C dX8_customerIs_11 0 rfl rfl ?_
    refine g_iconst C (1 : Int32) dX8_customerIs_12 rfl ?_
    refine g_callVi C cv_X8_error (ct_X8_error a0 (1 : Int32) h0 m2) q_344 h0 (by decide) rfl rfl (Nat.le_of_ble_eq_true rfl) dX8_customerIs_13 (fun r10 m11 => ?_)
    exact g_iret C Rr dX8_customerIs_16
theorem ct_X8_customerIs {Ω : OT} (a0 : Nat) (x1 : Int32) (x2 : Int32) (h0 : tg a0 = 8) (m0 : Mem) : Ct Ω yX8_customerIs cX8_customerIs 4 (some .int) 3 [.ref (oF Ω a0), .int x1, .int x2] m0 (f_X8_customerIs a0 x1 x2 m0) := by
  refine Ct_of (by decide) (Nat.le_of_ble_eq_true rfl) ?_
  intro K hK C Rr
  subst hK
  exact s_X8_customerIs C Rr  a0 x1 x2 h0 m0
def f_X8_leave  (a0 : Nat) (m0 : Mem) : Res :=
  (if 0 < (m0 (a0 + 1) 6) then
  bnd (mset m0 (a0 + 1) 6 ((m0 (a0 + 1) 6) - (1 : Int32))) (fun m1 =>
  some (m1 (a0 + 1) 6, m1))
  else
  cal (f_X8_error a0 (3 : Int32) m0) (fun r2 m3 =>
  some (r2, m3)))
set_option maxHeartbeats 2000000 in
theorem s_X8_leave {K : KT}  (C : Cx K cX8_leave RX8 1 2) (Rr : Rx K (some .int))  (a0 : Nat) (h0 : tg a0 = 8) (m0 : Mem) : G K 0 [(0, .ref (kf K a0))] [] m0 (f_X8_leave a0 m0) := by
  unfold f_X8_leave
  refine g_aload_n C dX8_leave_0 0 rfl rfl ?_
  refine g_getr C 0 1 Fx8 h0 (by decide) rfl rfl q_306 dX8_leave_1 ?_
  refine g_geti C 6 Fx7 (cl_8_0 h0) (by decide) rfl rfl q_140 dX8_leave_4 ?_
  refine g_if_gt C 16 dX8_leave_7 (by decide) (fun _ => ?_) (fun _ => ?_)
  · refine g_aload_n C dX8_leave_16 0 rfl rfl ?_
    refine g_getr C 0 1 Fx8 h0 (by decide) rfl rfl q_306 dX8_leave_17 ?_
    refine g_dup C dX8_leave_20 rfl ?_
    refine g_geti C 6 Fx7 (cl_8_0 h0) (by decide) rfl rfl q_140 dX8_leave_21 ?_
    refine g_iconst C (1 : Int32) dX8_leave_24 rfl ?_
    refine g_isub C dX8_leave_25 ?_
    refine g_puti C 6 Fx7 (cl_8_0 h0) (by decide) rfl rfl rfl rfl q_140 dX8_leave_26 (fun m1 => ?_)
    refine g_aload_n C dX8_leave_29 0 rfl rfl ?_
    refine g_getr C 0 1 Fx8 h0 (by decide) rfl rfl q_306 dX8_leave_30 ?_
    refine g_geti C 6 Fx7 (cl_8_0 h0) (by decide) rfl rfl q_140 dX8_leave_33 ?_
    exact g_iret C Rr dX8_leave_36
  · refine g_aload_n C dX8_leave_10 0 rfl rfl ?_
    refine g_iconst C (3 : Int32) dX8_leave_11 rfl ?_
    refine g_callVi C cv_X8_error (ct_X8_error a0 (3 : Int32) h0 m0) q_344 h0 (by decide) rfl rfl (Nat.le_of_ble_eq_true rfl) dX8_leave_12 (fun r2 m3 => ?_)
    exact g_iret C Rr dX8_leave_15
theorem ct_X8_leave {Ω : OT} (a0 : Nat) (h0 : tg a0 = 8) (m0 : Mem) : Ct Ω yX8_leave cX8_leave 1 (some .int) 2 [.ref (oF Ω a0)] m0 (f_X8_leave a0 m0) := by
  refine Ct_of (by decide) (Nat.le_of_ble_eq_true rfl) ?_
  intro K hK C Rr
  subst hK
  exact s_X8_leave C Rr  a0 h0 m0
def X8_feed_L39B  (k39 : Nat → Int64 → Int32 → Int32 → Mem → Res) (a0 : Nat) (w1 : Int64) (x3 : Int32) (x4 : Int32) (m0 : Mem) : Res :=
  (if x3 ≤ x4 then
  bnd (mset m0 (a0 + 1) 12 ((m0 (a0 + 1) 12) + x3)) (fun m1 =>
  some (m1 (a0 + 1) 12, m1))
  else
  gd (inb ((m0 (a0 + 1) 12) + x4) 60) (bnd (mset m0 ((a0 + 1) + 5) ((m0 (a0 + 1) 12) + x4).toNatClampNeg (((lur w1 ((8 : Int32) * x4)).toInt32) &&& (255 : Int32))) (fun m2 =>
  bnd (x4 + (1 : Int32)) (fun y3 =>
  k39 a0 w1 x3 y3 m2))))
def X8_feed_L39   : Nat → Nat → Int64 → Int32 → Int32 → Mem → Res
  | 0 => fun _ _ _ _ _ => none
  | n + 1 => X8_feed_L39B (X8_feed_L39 n)
def f_X8_feed  (a0 : Nat) (w1 : Int64) (x3 : Int32) (m0 : Mem) : Res :=
  cal (f_X8_within x3 (1 : Int32) (8 : Int32) m0) (fun r1 m2 =>
  (if r1 = 0 then
  cal (f_X8_error a0 (1 : Int32) m2) (fun r5 m6 =>
  some (r5, m6))
  else
  (if ((m2 (a0 + 1) 12) + x3) ≤ (60 : Int32) then
  X8_feed_L39 FU a0 w1 x3 (0 : Int32) m2
  else
  cal (f_X8_error a0 (4 : Int32) m2) (fun r3 m4 =>
  some (r3, m4)))))
set_option maxHeartbeats 2000000 in
theorem s_X8_feed_L39B {K : KT}  (C : Cx K cX8_feed RX8 5 2) (Rr : Rx K (some .int))  {k39 : Nat → Int64 → Int32 → Int32 → Mem → Res} (hk39 : ∀ (a0 : Nat) (w1 : Int64) (x3 : Int32) (x4 : Int32) (h0 : tg a0 = 8) (m0 : Mem), G K 39 [(0, .ref (kf K a0)), (1, .long w1), (3, .int x3), (4, .int x4)] [] m0 (k39 a0 w1 x3 x4 m0)) (a0 : Nat) (w1 : Int64) (x3 : Int32) (x4 : Int32) (h0 : tg a0 = 8) (m0 : Mem) : G K 39 [(0, .ref (kf K a0)), (1, .long w1), (3, .int x3), (4, .int x4)] [] m0 (X8_feed_L39B k39 a0 w1 x3 x4 m0) := by
  unfold X8_feed_L39B
  refine g_iload C dX8_feed_39 3 rfl ?_
  refine g_iload_n C dX8_feed_41 2 rfl rfl ?_
  refine g_icmp_ge C 81 dX8_feed_42 (by decide) (fun _ => ?_) (fun _ => ?_)
  · refine g_aload_n C dX8_feed_81 0 rfl rfl ?_
    refine g_getr C 0 1 Fx8 h0 (by decide) rfl rfl q_306 dX8_feed_82 ?_
    refine g_dup C dX8_feed_85 rfl ?_
    refine g_geti C 12 Fx7 (cl_8_0 h0) (by decide) rfl rfl q_152 dX8_feed_86 ?_
    refine g_iload_n C dX8_feed_89 2 rfl rfl ?_
    refine g_iadd C dX8_feed_90 ?_
    refine g_puti C 12 Fx7 (cl_8_0 h0) (by decide) rfl rfl rfl rfl q_152 dX8_feed_91 (fun m1 => ?_)
    refine g_aload_n C dX8_feed_94 0 rfl rfl ?_
    refine g_getr C 0 1 Fx8 h0 (by decide) rfl rfl q_306 dX8_feed_95 ?_
    refine g_geti C 12 Fx7 (cl_8_0 h0) (by decide) rfl rfl q_152 dX8_feed_98 ?_
    exact g_iret C Rr dX8_feed_101
  · refine g_aload_n C dX8_feed_45 0 rfl rfl ?_
    refine g_getr C 0 1 Fx8 h0 (by decide) rfl rfl q_306 dX8_feed_46 ?_
    refine g_getr C 11 5 Fx7 (cl_8_0 h0) (by decide) rfl rfl q_150 dX8_feed_49 ?_
    refine g_aload_n C dX8_feed_52 0 rfl rfl ?_
    refine g_getr C 0 1 Fx8 h0 (by decide) rfl rfl q_306 dX8_feed_53 ?_
    refine g_geti C 12 Fx7 (cl_8_0 h0) (by decide) rfl rfl q_152 dX8_feed_56 ?_
    refine g_iload C dX8_feed_59 3 rfl ?_
    refine g_iadd C dX8_feed_61 ?_
    refine g_lload_n C dX8_feed_62 1 rfl rfl ?_
    refine g_bipush C (8 : Int32) dX8_feed_63 rfl ?_
    refine g_iload C dX8_feed_65 3 rfl ?_
    refine g_imul C dX8_feed_67 ?_
    refine g_lushr C dX8_feed_68 ?_
    refine g_l2i C dX8_feed_69 ?_
    refine g_sipush C (255 : Int32) dX8_feed_70 rfl ?_
    refine g_iand C dX8_feed_73 ?_
    refine g_iast (n := 60) C (cl_7_11 (cl_8_0 h0)) dX8_feed_74 (fun m2 => ?_)
    refine g_iinc (k := 3) C dX8_feed_75 rfl (w := (1 : Int32)) rfl (by decide) (fun v_ => [(4, .int v_), (0, .ref (kf K a0)), (1, .long w1), (3, .int x3)]) (fun _ => rfl) (fun y3 => ?_)
    refine g_goto C 39 dX8_feed_78 (by decide) ?_
    refine g_sub [1, 2, 3, 0] rfl ?_
    exact hk39 a0 w1 x3 y3 h0 m2
theorem s_X8_feed_L39 {K : KT}  (C : Cx K cX8_feed RX8 5 2) (Rr : Rx K (some .int))    : ∀ (n : Nat) (a0 : Nat) (w1 : Int64) (x3 : Int32) (x4 : Int32) (h0 : tg a0 = 8) (m0 : Mem), G K 39 [(0, .ref (kf K a0)), (1, .long w1), (3, .int x3), (4, .int x4)] [] m0 (X8_feed_L39 n a0 w1 x3 x4 m0) := by
  intro n
  induction n with
  | zero => intros; exact g_none
  | succ n ih =>
    intro a0 w1 x3 x4 h0 m0
    exact s_X8_feed_L39B C Rr  ih a0 w1 x3 x4 h0 m0
set_option maxHeartbeats 2000000 in
theorem s_X8_feed {K : KT}  (C : Cx K cX8_feed RX8 5 2) (Rr : Rx K (some .int))  (a0 : Nat) (w1 : Int64) (x3 : Int32) (h0 : tg a0 = 8) (m0 : Mem) : G K 0 [(0, .ref (kf K a0)), (1, .long w1), (3, .int x3)] [] m0 (f_X8_feed a0 w1 x3 m0) := by
  unfold f_X8_feed
  refine g_iload_n C dX8_feed_0 2 rfl rfl ?_
  refine g_iconst C (1 : Int32) dX8_feed_1 rfl ?_
  refine g_bipush C (8 : Int32) dX8_feed_2 rfl ?_
  refine g_callSi C cv_X8_within q_342 (ct_X8_within x3 (1 : Int32) (8 : Int32)  m0) q_341 (by decide) rfl rfl (Nat.le_of_ble_eq_true rfl) dX8_feed_4 (fun r1 m2 => ?_)
  refine g_if_ne C 16 dX8_feed_7 (by decide) (fun _ => ?_) (fun _ => ?_)
  · refine g_aload_n C dX8_feed_16 0 rfl rfl ?_
    refine g_getr C 0 1 Fx8 h0 (by decide) rfl rfl q_306 dX8_feed_17 ?_
    refine g_geti C 12 Fx7 (cl_8_0 h0) (by decide) rfl rfl q_152 dX8_feed_20 ?_
    refine g_iload_n C dX8_feed_23 2 rfl rfl ?_
    refine g_iadd C dX8_feed_24 ?_
    refine g_bipush C (60 : Int32) dX8_feed_25 rfl ?_
    refine g_icmp_le C 36 dX8_feed_27 (by decide) (fun _ => ?_) (fun _ => ?_)
    · refine g_iconst C (0 : Int32) dX8_feed_36 rfl ?_
      refine g_istore C dX8_feed_37 (by decide) rfl ?_
      refine g_sub [1, 2, 3, 0] rfl ?_
      exact s_X8_feed_L39 C Rr FU a0 w1 x3 (0 : Int32) h0 m2
    · refine g_aload_n C dX8_feed_30 0 rfl rfl ?_
      refine g_iconst C (4 : Int32) dX8_feed_31 rfl ?_
      refine g_callVi C cv_X8_error (ct_X8_error a0 (4 : Int32) h0 m2) q_344 h0 (by decide) rfl rfl (Nat.le_of_ble_eq_true rfl) dX8_feed_32 (fun r3 m4 => ?_)
      exact g_iret C Rr dX8_feed_35
  · refine g_aload_n C dX8_feed_10 0 rfl rfl ?_
    refine g_iconst C (1 : Int32) dX8_feed_11 rfl ?_
    refine g_callVi C cv_X8_error (ct_X8_error a0 (1 : Int32) h0 m2) q_344 h0 (by decide) rfl rfl (Nat.le_of_ble_eq_true rfl) dX8_feed_12 (fun r5 m6 => ?_)
    exact g_iret C Rr dX8_feed_15
theorem ct_X8_feed {Ω : OT} (a0 : Nat) (w1 : Int64) (x3 : Int32) (h0 : tg a0 = 8) (m0 : Mem) : Ct Ω yX8_feed cX8_feed 5 (some .int) 2 [.ref (oF Ω a0), .long w1, .int x3] m0 (f_X8_feed a0 w1 x3 m0) := by
  refine Ct_of (by decide) (Nat.le_of_ble_eq_true rfl) ?_
  intro K hK C Rr
  subst hK
  exact s_X8_feed C Rr  a0 w1 x3 h0 m0
def f_X8_isUse  (x0 : Int32) (m0 : Mem) : Res :=
  cal (f_X8_within x0 (0 : Int32) (1 : Int32) m0) (fun r1 m2 =>
  gd (isb r1) (some (r1, m2)))
set_option maxHeartbeats 2000000 in
theorem s_X8_isUse {K : KT}  (C : Cx K cX8_isUse RX8 1 2) (Rr : Rx K (some .boolean))  (x0 : Int32)  (m0 : Mem) : G K 0 [(0, .int x0)] [] m0 (f_X8_isUse x0 m0) := by
  unfold f_X8_isUse
  refine g_iload_n C dX8_isUse_0 0 rfl rfl ?_
  refine g_iconst C (0 : Int32) dX8_isUse_1 rfl ?_
  refine g_iconst C (1 : Int32) dX8_isUse_2 rfl ?_
  refine g_callSi C cv_X8_within q_342 (ct_X8_within x0 (0 : Int32) (1 : Int32)  m0) q_341 (by decide) rfl rfl (Nat.le_of_ble_eq_true rfl) dX8_isUse_3 (fun r1 m2 => ?_)
  exact g_zret C Rr dX8_isUse_6
theorem ct_X8_isUse {Ω : OT} (x0 : Int32)  (m0 : Mem) : Ct Ω yX8_isUse cX8_isUse 1 (some .boolean) 2 [.int x0] m0 (f_X8_isUse x0 m0) := by
  refine Ct_of (by decide) (Nat.le_of_ble_eq_true rfl) ?_
  intro K hK C Rr
  subst hK
  exact s_X8_isUse C Rr  x0 m0
