def X8_hold_J17   (xs0 : Int32) (m0 : Mem) : Res :=
  some (xs0, m0)
def f_X8_hold  (x0 : Int32) (x1 : Int32) (x2 : Int32) (m0 : Mem) : Res :=
  (if x1 ≤ x0 then
  (if x0 ≤ x2 then
  X8_hold_J17 x0 m0
  else
  X8_hold_J17 x2 m0)
  else
  some (x1, m0))
set_option maxHeartbeats 2000000 in
theorem s_X8_hold_J17 {K : KT}  (C : Cx K cX8_hold RX8 3 1) (Rr : Rx K (some .int))    (xs0 : Int32)  (m0 : Mem) : G K 17 [] [.int xs0] m0 (X8_hold_J17 xs0 m0) := by
  unfold X8_hold_J17
  exact g_iret C Rr dX8_hold_17
set_option maxHeartbeats 2000000 in
theorem s_X8_hold {K : KT}  (C : Cx K cX8_hold RX8 3 1) (Rr : Rx K (some .int))  (x0 : Int32) (x1 : Int32) (x2 : Int32)  (m0 : Mem) : G K 0 [(0, .int x0), (1, .int x1), (2, .int x2)] [] m0 (f_X8_hold x0 x1 x2 m0) := by
  unfold f_X8_hold
  refine g_iload_n C dX8_hold_0 0 rfl rfl ?_
  refine g_iload_n C dX8_hold_1 1 rfl rfl ?_
  refine g_icmp_ge C 7 dX8_hold_2 (by decide) (fun _ => ?_) (fun _ => ?_)
  · refine g_iload_n C dX8_hold_7 0 rfl rfl ?_
    refine g_iload_n C dX8_hold_8 2 rfl rfl ?_
    refine g_icmp_le C 16 dX8_hold_9 (by decide) (fun _ => ?_) (fun _ => ?_)
    · refine g_iload_n C dX8_hold_16 0 rfl rfl ?_
      refine g_sub [] rfl ?_
      exact s_X8_hold_J17 C Rr x0 m0
    · refine g_iload_n C dX8_hold_12 2 rfl rfl ?_
      refine g_goto C 17 dX8_hold_13 (by decide) ?_
      refine g_sub [] rfl ?_
      exact s_X8_hold_J17 C Rr x2 m0
  · refine g_iload_n C dX8_hold_5 1 rfl rfl ?_
    exact g_iret C Rr dX8_hold_6
theorem ct_X8_hold {Ω : OT} (x0 : Int32) (x1 : Int32) (x2 : Int32)  (m0 : Mem) : Ct Ω yX8_hold cX8_hold 3 (some .int) 1 [.int x0, .int x1, .int x2] m0 (f_X8_hold x0 x1 x2 m0) := by
  refine Ct_of (by decide) (Nat.le_of_ble_eq_true rfl) ?_
  intro K hK C Rr
  subst hK
  exact s_X8_hold C Rr  x0 x1 x2 m0
def X7_priceOf_J52   (a3 : Nat) (x4 : Int32) (m0 : Mem) : Res :=
  some (((2 : Int32) * x4) + (m0 a3 1), m0)
def X7_priceOf_J62   (x4 : Int32) (m0 : Mem) : Res :=
  some ((3 : Int32) * x4, m0)
def f_X7_priceOf  (a0 : Nat) (x1 : Int32) (x2 : Int32) (m0 : Mem) : Res :=
  gd (inb x1 6) (
  gd (inb x2 6) (
  bnd (m0 (a0 + 1) x2.toNatClampNeg) (fun y2 =>
  (if (m0 ((a0 + 2) + 5 + 3 * x1.toNatClampNeg) 0) = (2 : Int32) then
  X7_priceOf_J52 ((a0 + 2) + 5 + 3 * x1.toNatClampNeg) y2 m0
  else
  if (m0 ((a0 + 2) + 5 + 3 * x1.toNatClampNeg) 0) = (3 : Int32) then
  X7_priceOf_J62 y2 m0
  else
  if (m0 ((a0 + 2) + 5 + 3 * x1.toNatClampNeg) 0) = (4 : Int32) then
  X7_priceOf_J62 y2 m0
  else
  if (m0 ((a0 + 2) + 5 + 3 * x1.toNatClampNeg) 0) = (5 : Int32) then
  X7_priceOf_J52 ((a0 + 2) + 5 + 3 * x1.toNatClampNeg) y2 m0
  else
  if (m0 ((a0 + 2) + 5 + 3 * x1.toNatClampNeg) 0) = (6 : Int32) then
  gd (inb (1 : Int32) 2) (
  cal (f_X1_isTold ((a0 + 4) + 31 + 3 * (1 : Int32).toNatClampNeg) m0) (fun r8 m9 =>
  (if r8 = 0 then
  some ((2 : Int32) * y2, m9)
  else
  gd (inb (1 : Int32) 2) (
  gd (inb x2 6) (
  cal (f_X1_value ((a0 + 4) + 31 + 3 * (1 : Int32).toNatClampNeg) y2 (m9 (((a0 + 2) + 5 + 3 * x1.toNatClampNeg) + 2) x2.toNatClampNeg) (m9 a0 7) (m9 ((a0 + 2) + 5 + 3 * x1.toNatClampNeg) 1) m9) (fun r11 m12 =>
  cal (f_X8_hold r11 (0 : Int32) (999 : Int32) m12) (fun r13 m14 =>
  some (r13, m14))))))))
  else
  some ((2 : Int32) * y2, m0)))))
set_option maxHeartbeats 2000000 in
theorem s_X7_priceOf_J52 {K : KT}  (C : Cx K cX7_priceOf RX7 5 3) (Rr : Rx K (some .int))    (a3 : Nat) (x4 : Int32) (h3 : tg a3 = 5) (m0 : Mem) : G K 52 [(3, .ref (kf K a3)), (4, .int x4)] [] m0 (X7_priceOf_J52 a3 x4 m0) := by
  unfold X7_priceOf_J52
  refine g_iconst C (2 : Int32) dX7_priceOf_52 rfl ?_
  refine g_iload C dX7_priceOf_53 1 rfl ?_
  refine g_imul C dX7_priceOf_55 ?_
  refine g_aload_n C dX7_priceOf_56 0 rfl rfl ?_
  refine g_geti C 1 Fx5 h3 (by decide) rfl rfl q_54 dX7_priceOf_57 ?_
  refine g_iadd C dX7_priceOf_60 ?_
  exact g_iret C Rr dX7_priceOf_61
set_option maxHeartbeats 2000000 in
theorem s_X7_priceOf_J62 {K : KT}  (C : Cx K cX7_priceOf RX7 5 3) (Rr : Rx K (some .int))    (x4 : Int32)  (m0 : Mem) : G K 62 [(4, .int x4)] [] m0 (X7_priceOf_J62 x4 m0) := by
  unfold X7_priceOf_J62
  refine g_iconst C (3 : Int32) dX7_priceOf_62 rfl ?_
  refine g_iload C dX7_priceOf_63 0 rfl ?_
  refine g_imul C dX7_priceOf_65 ?_
  exact g_iret C Rr dX7_priceOf_66
set_option maxHeartbeats 2000000 in
theorem s_X7_priceOf {K : KT}  (C : Cx K cX7_priceOf RX7 5 3) (Rr : Rx K (some .int))  (a0 : Nat) (x1 : Int32) (x2 : Int32) (h0 : tg a0 = 7) (m0 : Mem) : G K 0 [(0, .ref (kf K a0)), (1, .int x1), (2, .int x2)] [] m0 (f_X7_priceOf a0 x1 x2 m0) := by
  unfold f_X7_priceOf
  refine g_aload_n C dX7_priceOf_0 0 rfl rfl ?_
  refine g_getr C 3 2 Fx7 h0 (by decide) rfl rfl q_131 dX7_priceOf_1 ?_
  refine g_iload_n C dX7_priceOf_4 1 rfl rfl ?_
  refine g_aald10 C (cl_7_3 h0) dX7_priceOf_5 (fun g1 => ?_)
  refine g_astore_n C dX7_priceOf_6 rfl (by decide) rfl ?_
  refine g_aload_n C dX7_priceOf_7 1 rfl rfl ?_
  refine g_getr C 0 1 Fx7 h0 (by decide) rfl rfl q_125 dX7_priceOf_8 ?_
  refine g_iload_n C dX7_priceOf_11 3 rfl rfl ?_
  refine g_iald (n := 6) C (cl_7_0 h0) dX7_priceOf_12 (fun _ => ?_)
  refine g_bnd (fun y2 => ?_)
  refine g_istore C dX7_priceOf_13 (by decide) rfl ?_
  refine g_aload_n C dX7_priceOf_15 1 rfl rfl ?_
  refine g_geti C 0 Fx5 (ca_10 (cl_7_3 h0) g1) (by decide) rfl rfl q_50 dX7_priceOf_16 ?_
  refine g_tsw C 52 dX7_priceOf_19 (by decide) rfl (by decide) ?_ (fun e3 => ?_)
  · refine g_sub [1, 0] rfl ?_
    exact s_X7_priceOf_J52 C Rr ((a0 + 2) + 5 + 3 * x1.toNatClampNeg) y2 (ca_10 (cl_7_3 h0) g1) m0
  refine g_tsw C 62 dX7_priceOf_19 (by decide) rfl (by decide) ?_ (fun e4 => ?_)
  · refine g_sub [0] rfl ?_
    exact s_X7_priceOf_J62 C Rr y2 m0
  refine g_tsw C 62 dX7_priceOf_19 (by decide) rfl (by decide) ?_ (fun e5 => ?_)
  · refine g_sub [0] rfl ?_
    exact s_X7_priceOf_J62 C Rr y2 m0
  refine g_tsw C 52 dX7_priceOf_19 (by decide) rfl (by decide) ?_ (fun e6 => ?_)
  · refine g_sub [1, 0] rfl ?_
    exact s_X7_priceOf_J52 C Rr ((a0 + 2) + 5 + 3 * x1.toNatClampNeg) y2 (ca_10 (cl_7_3 h0) g1) m0
  refine g_tsw C 67 dX7_priceOf_19 (by decide) rfl (by decide) ?_ (fun e15 => ?_)
  · refine g_aload_n C dX7_priceOf_67 2 rfl rfl ?_
    refine g_getr C 10 4 Fx7 h0 (by decide) rfl rfl q_147 dX7_priceOf_68 ?_
    refine g_iconst C (1 : Int32) dX7_priceOf_71 rfl ?_
    refine g_aald12 C (cl_7_10 h0) dX7_priceOf_72 (fun g7 => ?_)
    refine g_callVi C cv_X1_isTold (ct_X1_isTold ((a0 + 4) + 31 + 3 * (1 : Int32).toNatClampNeg) (ca_12 (cl_7_10 h0) g7) m0) q_420 (ca_12 (cl_7_10 h0) g7) (by decide) rfl rfl (Nat.le_of_ble_eq_true rfl) dX7_priceOf_73 (fun r8 m9 => ?_)
    refine g_if_ne C 84 dX7_priceOf_76 (by decide) (fun _ => ?_) (fun _ => ?_)
    · refine g_aload_n C dX7_priceOf_84 2 rfl rfl ?_
      refine g_getr C 10 4 Fx7 h0 (by decide) rfl rfl q_147 dX7_priceOf_85 ?_
      refine g_iconst C (1 : Int32) dX7_priceOf_88 rfl ?_
      refine g_aald12 C (cl_7_10 h0) dX7_priceOf_89 (fun g10 => ?_)
      refine g_iload C dX7_priceOf_90 0 rfl ?_
      refine g_aload_n C dX7_priceOf_92 1 rfl rfl ?_
      refine g_getr C 4 2 Fx5 (ca_10 (cl_7_3 h0) g1) (by decide) rfl rfl q_63 dX7_priceOf_93 ?_
      refine g_iload_n C dX7_priceOf_96 4 rfl rfl ?_
      refine g_iald (n := 6) C (cl_5_4 (ca_10 (cl_7_3 h0) g1)) dX7_priceOf_97 (fun _ => ?_)
      refine g_aload_n C dX7_priceOf_98 2 rfl rfl ?_
      refine g_geti C 7 Fx7 h0 (by decide) rfl rfl q_141 dX7_priceOf_99 ?_
      refine g_aload_n C dX7_priceOf_102 1 rfl rfl ?_
      refine g_geti C 1 Fx5 (ca_10 (cl_7_3 h0) g1) (by decide) rfl rfl q_54 dX7_priceOf_103 ?_
      refine g_callVi C cv_X1_value (ct_X1_value ((a0 + 4) + 31 + 3 * (1 : Int32).toNatClampNeg) y2 (m9 (((a0 + 2) + 5 + 3 * x1.toNatClampNeg) + 2) x2.toNatClampNeg) (m9 a0 7) (m9 ((a0 + 2) + 5 + 3 * x1.toNatClampNeg) 1) (ca_12 (cl_7_10 h0) g10) m9) q_424 (ca_12 (cl_7_10 h0) g10) (by decide) rfl rfl (Nat.le_of_ble_eq_true rfl) dX7_priceOf_106 (fun r11 m12 => ?_)
      refine g_iconst C (0 : Int32) dX7_priceOf_109 rfl ?_
      refine g_sipush C (999 : Int32) dX7_priceOf_110 rfl ?_
      refine g_callNi C cv_X8_hold q_435 (ct_X8_hold r11 (0 : Int32) (999 : Int32)  m12) (by decide +kernel) (by decide) rfl rfl (Nat.le_of_ble_eq_true rfl) dX7_priceOf_113 (fun r13 m14 => ?_)
      exact g_iret C Rr dX7_priceOf_116
    · refine g_iconst C (2 : Int32) dX7_priceOf_79 rfl ?_
      refine g_iload C dX7_priceOf_80 0 rfl ?_
      refine g_imul C dX7_priceOf_82 ?_
      exact g_iret C Rr dX7_priceOf_83
  refine g_tswd C 117 dX7_priceOf_19 (sw_out [(2 : Int32), (3 : Int32), (4 : Int32), (5 : Int32), (6 : Int32)] (by intro v hv; simp only [List.mem_cons, List.not_mem_nil, or_false] at hv; rcases hv with rfl | rfl | rfl | rfl | rfl <;> assumption) (fun i h1 h2 => by have hi : i = 2 ∨ i = 3 ∨ i = 4 ∨ i = 5 ∨ i = 6 := (by omega); rcases hi with rfl | rfl | rfl | rfl | rfl <;> simp)) (by decide) ?_
  refine g_iconst C (2 : Int32) dX7_priceOf_117 rfl ?_
  refine g_iload C dX7_priceOf_118 0 rfl ?_
  refine g_imul C dX7_priceOf_120 ?_
  exact g_iret C Rr dX7_priceOf_121
theorem ct_X7_priceOf {Ω : OT} (a0 : Nat) (x1 : Int32) (x2 : Int32) (h0 : tg a0 = 7) (m0 : Mem) : Ct Ω yX7_priceOf cX7_priceOf 5 (some .int) 3 [.ref (oF Ω a0), .int x1, .int x2] m0 (f_X7_priceOf a0 x1 x2 m0) := by
  refine Ct_of (by decide) (Nat.le_of_ble_eq_true rfl) ?_
  intro K hK C Rr
  subst hK
  exact s_X7_priceOf C Rr  a0 x1 x2 h0 m0
def f_X5_earn  (a0 : Nat) (x1 : Int32) (m0 : Mem) : Res :=
  cal (f_X8_hold ((m0 a0 2) + x1) (-999999 : Int32) (999999 : Int32) m0) (fun r1 m2 =>
  bnd (mset m2 a0 2 r1) (fun m3 =>
  some (0, m3)))
set_option maxHeartbeats 2000000 in
theorem s_X5_earn {K : KT}  (C : Cx K cX5_earn RX5 2 2) (Rr : Rx K none)  (a0 : Nat) (x1 : Int32) (h0 : tg a0 = 5) (m0 : Mem) : G K 0 [(0, .ref (kf K a0)), (1, .int x1)] [] m0 (f_X5_earn a0 x1 m0) := by
  unfold f_X5_earn
  refine g_aload_n C dX5_earn_0 0 rfl rfl ?_
  refine g_aload_n C dX5_earn_1 0 rfl rfl ?_
  refine g_geti C 2 Fx5 h0 (by decide) rfl rfl q_55 dX5_earn_2 ?_
  refine g_iload_n C dX5_earn_5 1 rfl rfl ?_
  refine g_iadd C dX5_earn_6 ?_
  refine g_ldc (v := (-999999 : Int32)) C q_641 dX5_earn_7 ?_
  refine g_ldc (v := (999999 : Int32)) C q_642 dX5_earn_9 ?_
  refine g_callNi C cv_X8_hold q_435 (ct_X8_hold ((m0 a0 2) + x1) (-999999 : Int32) (999999 : Int32)  m0) (by decide +kernel) (by decide) rfl rfl (Nat.le_of_ble_eq_true rfl) dX5_earn_11 (fun r1 m2 => ?_)
  refine g_puti C 2 Fx5 h0 (by decide) rfl rfl rfl rfl q_55 dX5_earn_14 (fun m3 => ?_)
  exact g_vret C Rr dX5_earn_17
theorem ct_X5_earn {Ω : OT} (a0 : Nat) (x1 : Int32) (h0 : tg a0 = 5) (m0 : Mem) : Ct Ω yX5_earn cX5_earn 2 none 2 [.ref (oF Ω a0), .int x1] m0 (f_X5_earn a0 x1 m0) := by
  refine Ct_of (by decide) (Nat.le_of_ble_eq_true rfl) ?_
  intro K hK C Rr
  subst hK
  exact s_X5_earn C Rr  a0 x1 h0 m0
def X7_goAlong_J192   (x5 : Int32) (m0 : Mem) : Res :=
  some (x5, m0)
def X7_goAlong_J180  (k53 : Nat → Nat → Int32 → Int32 → Int32 → Int32 → Mem → Res) (k83 : Nat → Nat → Int32 → Int32 → Int32 → Int32 → Int32 → Int32 → Mem → Res) (a0 : Nat) (a2 : Nat) (x3 : Int32) (x4 : Int32) (x5 : Int32) (x6 : Int32) (x7 : Int32) (x8 : Int32) (m0 : Mem) : Res :=
  bnd (x8 + (1 : Int32)) (fun y1 =>
  k83 a0 a2 x3 x4 x5 x6 x7 y1 m0)
def X7_goAlong_L83B  (k53 : Nat → Nat → Int32 → Int32 → Int32 → Int32 → Mem → Res) (k83 : Nat → Nat → Int32 → Int32 → Int32 → Int32 → Int32 → Int32 → Mem → Res) (a0 : Nat) (a2 : Nat) (x3 : Int32) (x4 : Int32) (x5 : Int32) (x6 : Int32) (x7 : Int32) (x8 : Int32) (m0 : Mem) : Res :=
  (if (6 : Int32) ≤ x8 then
  bnd (x6 + (1 : Int32)) (fun y1 =>
  k53 a0 a2 x3 x4 x5 y1 m0)
  else
  (if (((m0 a2 0) &&& (x5 ^^^ (-1 : Int32))) &&& (isl (1 : Int32) x8)) = 0 then
  X7_goAlong_J180 k53 k83 a0 a2 x3 x4 x5 x6 x7 x8 m0
  else
  cal (f_X7_maySell a0 x7 x8 m0) (fun r2 m3 =>
  (if r2 = 0 then
  X7_goAlong_J180 k53 k83 a0 a2 x3 x4 x5 x6 x7 x8 m3
  else
  cal (f_X7_priceOf a0 x7 x8 m3) (fun r4 m5 =>
  (if x4 < r4 then
  X7_goAlong_J180 k53 k83 a0 a2 x3 x4 x5 x6 x7 x8 m5
  else
  gd (inb x7 6) (
  gd (inb x8 6) (
  gd (inb x8 6) (bnd (mset m5 (((a0 + 2) + 5 + 3 * x7.toNatClampNeg) + 2) x8.toNatClampNeg ((m5 (((a0 + 2) + 5 + 3 * x7.toNatClampNeg) + 2) x8.toNatClampNeg) - (1 : Int32))) (fun m7 =>
  gd (inb x7 6) (
  cal (f_X5_earn ((a0 + 2) + 5 + 3 * x7.toNatClampNeg) r4 m7) (fun r9 m10 =>
  bnd (x4 - r4) (fun y11 =>
  bnd (x5 ||| (isl (1 : Int32) x8)) (fun y12 =>
  X7_goAlong_J180 k53 k83 a0 a2 x3 y11 y12 x6 x7 x8 m10))))))))))))))
def X7_goAlong_L83  (k53 : Nat → Nat → Int32 → Int32 → Int32 → Int32 → Mem → Res) : Nat → Nat → Nat → Int32 → Int32 → Int32 → Int32 → Int32 → Int32 → Mem → Res
  | 0 => fun _ _ _ _ _ _ _ _ _ => none
  | n + 1 => X7_goAlong_L83B k53 (X7_goAlong_L83 k53 n)
def X7_goAlong_L53B  (k53 : Nat → Nat → Int32 → Int32 → Int32 → Int32 → Mem → Res) (a0 : Nat) (a2 : Nat) (x3 : Int32) (x4 : Int32) (x5 : Int32) (x6 : Int32) (m0 : Mem) : Res :=
  (if x3 ≤ x6 then
  X7_goAlong_J192 x5 m0
  else
  (if x5 = (m0 a2 0) then
  X7_goAlong_J192 x5 m0
  else
  cal (f_X7_placeOf a0 (m0 a2 2) x6 m0) (fun r1 m2 =>
  X7_goAlong_L83 k53 FU a0 a2 x3 x4 x5 x6 r1 (0 : Int32) m2)))
def X7_goAlong_L53   : Nat → Nat → Nat → Int32 → Int32 → Int32 → Int32 → Mem → Res
  | 0 => fun _ _ _ _ _ _ _ => none
  | n + 1 => X7_goAlong_L53B (X7_goAlong_L53 n)
def X7_goAlong_J40   (a0 : Nat) (a2 : Nat) (xs0 : Int32) (m0 : Mem) : Res :=
  bnd (m0 a2 3) (fun y1 =>
  X7_goAlong_L53 FU a0 a2 xs0 y1 (0 : Int32) (0 : Int32) m0)
def X7_goAlong_J29   (a0 : Nat) (a2 : Nat) (m0 : Mem) : Res :=
  X7_goAlong_J40 a0 a2 (imin (m0 a2 1) (m0 a0 4)) m0
def f_X7_goAlong  (a0 : Nat) (x1 : Int32) (m0 : Mem) : Res :=
  gd (inb x1 10) (
  (if (m0 a0 1) = (1 : Int32) then
  (if (m0 a0 4) ≤ 0 then
  X7_goAlong_J29 a0 ((a0 + 3) + 22 + 1 * x1.toNatClampNeg) m0
  else
  X7_goAlong_J40 a0 ((a0 + 3) + 22 + 1 * x1.toNatClampNeg) (m0 ((a0 + 3) + 22 + 1 * x1.toNatClampNeg) 1) m0)
  else
  X7_goAlong_J29 a0 ((a0 + 3) + 22 + 1 * x1.toNatClampNeg) m0))
set_option maxHeartbeats 2000000 in
theorem s_X7_goAlong_J192 {K : KT}  (C : Cx K cX7_goAlong RX7 10 4) (Rr : Rx K (some .int))    (x5 : Int32)  (m0 : Mem) : G K 192 [(5, .int x5)] [] m0 (X7_goAlong_J192 x5 m0) := by
  unfold X7_goAlong_J192
  refine g_iload C dX7_goAlong_192 0 rfl ?_
  exact g_iret C Rr dX7_goAlong_194
set_option maxHeartbeats 2000000 in
theorem s_X7_goAlong_J180 {K : KT}  (C : Cx K cX7_goAlong RX7 10 4) (Rr : Rx K (some .int))  {k53 : Nat → Nat → Int32 → Int32 → Int32 → Int32 → Mem → Res} {k83 : Nat → Nat → Int32 → Int32 → Int32 → Int32 → Int32 → Int32 → Mem → Res} (hk53 : ∀ (a0 : Nat) (a2 : Nat) (x3 : Int32) (x4 : Int32) (x5 : Int32) (x6 : Int32) (h0 : tg a0 = 7) (h2 : tg a2 = 0) (m0 : Mem), G K 53 [(0, .ref (kf K a0)), (2, .ref (kf K a2)), (3, .int x3), (4, .int x4), (5, .int x5), (6, .int x6)] [] m0 (k53 a0 a2 x3 x4 x5 x6 m0)) (hk83 : ∀ (a0 : Nat) (a2 : Nat) (x3 : Int32) (x4 : Int32) (x5 : Int32) (x6 : Int32) (x7 : Int32) (x8 : Int32) (h0 : tg a0 = 7) (h2 : tg a2 = 0) (m0 : Mem), G K 83 [(0, .ref (kf K a0)), (2, .ref (kf K a2)), (3, .int x3), (4, .int x4), (5, .int x5), (6, .int x6), (7, .int x7), (8, .int x8)] [] m0 (k83 a0 a2 x3 x4 x5 x6 x7 x8 m0)) (a0 : Nat) (a2 : Nat) (x3 : Int32) (x4 : Int32) (x5 : Int32) (x6 : Int32) (x7 : Int32) (x8 : Int32) (h0 : tg a0 = 7) (h2 : tg a2 = 0) (m0 : Mem) : G K 180 [(0, .ref (kf K a0)), (2, .ref (kf K a2)), (3, .int x3), (4, .int x4), (5, .int x5), (6, .int x6), (7, .int x7), (8, .int x8)] [] m0 (X7_goAlong_J180 k53 k83 a0 a2 x3 x4 x5 x6 x7 x8 m0) := by
  unfold X7_goAlong_J180
  refine g_iinc (k := 7) C dX7_goAlong_180 rfl (w := (1 : Int32)) rfl (by decide) (fun v_ => [(8, .int v_), (0, .ref (kf K a0)), (2, .ref (kf K a2)), (3, .int x3), (4, .int x4), (5, .int x5), (6, .int x6), (7, .int x7)]) (fun _ => rfl) (fun y1 => ?_)
  refine g_goto C 83 dX7_goAlong_183 (by decide) ?_
  refine g_sub [1, 2, 3, 4, 5, 6, 7, 0] rfl ?_
  exact hk83 a0 a2 x3 x4 x5 x6 x7 y1 h0 h2 m0
set_option maxHeartbeats 2000000 in
theorem s_X7_goAlong_L83B {K : KT}  (C : Cx K cX7_goAlong RX7 10 4) (Rr : Rx K (some .int))  {k53 : Nat → Nat → Int32 → Int32 → Int32 → Int32 → Mem → Res} {k83 : Nat → Nat → Int32 → Int32 → Int32 → Int32 → Int32 → Int32 → Mem → Res} (hk53 : ∀ (a0 : Nat) (a2 : Nat) (x3 : Int32) (x4 : Int32) (x5 : Int32) (x6 : Int32) (h0 : tg a0 = 7) (h2 : tg a2 = 0) (m0 : Mem), G K 53 [(0, .ref (kf K a0)), (2, .ref (kf K a2)), (3, .int x3), (4, .int x4), (5, .int x5), (6, .int x6)] [] m0 (k53 a0 a2 x3 x4 x5 x6 m0)) (hk83 : ∀ (a0 : Nat) (a2 : Nat) (x3 : Int32) (x4 : Int32) (x5 : Int32) (x6 : Int32) (x7 : Int32) (x8 : Int32) (h0 : tg a0 = 7) (h2 : tg a2 = 0) (m0 : Mem), G K 83 [(0, .ref (kf K a0)), (2, .ref (kf K a2)), (3, .int x3), (4, .int x4), (5, .int x5), (6, .int x6), (7, .int x7), (8, .int x8)] [] m0 (k83 a0 a2 x3 x4 x5 x6 x7 x8 m0)) (a0 : Nat) (a2 : Nat) (x3 : Int32) (x4 : Int32) (x5 : Int32) (x6 : Int32) (x7 : Int32) (x8 : Int32) (h0 : tg a0 = 7) (h2 : tg a2 = 0) (m0 : Mem) : G K 83 [(0, .ref (kf K a0)), (2, .ref (kf K a2)), (3, .int x3), (4, .int x4), (5, .int x5), (6, .int x6), (7, .int x7), (8, .int x8)] [] m0 (X7_goAlong_L83B k53 k83 a0 a2 x3 x4 x5 x6 x7 x8 m0) := by
  unfold X7_goAlong_L83B
  refine g_iload C dX7_goAlong_83 7 rfl ?_
  refine g_bipush C (6 : Int32) dX7_goAlong_85 rfl ?_
  refine g_icmp_ge C 186 dX7_goAlong_87 (by decide) (fun _ => ?_) (fun _ => ?_)
  · refine g_iinc (k := 5) C dX7_goAlong_186 rfl (w := (1 : Int32)) rfl (by decide) (fun v_ => [(6, .int v_), (0, .ref (kf K a0)), (2, .ref (kf K a2)), (3, .int x3), (4, .int x4), (5, .int x5), (7, .int x7), (8, .int x8)]) (fun _ => rfl) (fun y1 => ?_)
    refine g_goto C 53 dX7_goAlong_189 (by decide) ?_
    refine g_sub [1, 2, 3, 4, 5, 0] rfl ?_
    exact hk53 a0 a2 x3 x4 x5 y1 h0 h2 m0
  · refine g_aload_n C dX7_goAlong_90 1 rfl rfl ?_
    refine g_geti C 0 Fx0 h2 (by decide) rfl rfl q_87 dX7_goAlong_91 ?_
    refine g_iload C dX7_goAlong_94 4 rfl ?_
    refine g_iconst C (-1 : Int32) dX7_goAlong_96 rfl ?_
    refine g_ixor C dX7_goAlong_97 ?_
    refine g_iand C dX7_goAlong_98 ?_
    refine g_iconst C (1 : Int32) dX7_goAlong_99 rfl ?_
    refine g_iload C dX7_goAlong_100 7 rfl ?_
    refine g_ishl C dX7_goAlong_102 ?_
    refine g_iand C dX7_goAlong_103 ?_
    refine g_if_eq C 180 dX7_goAlong_104 (by decide) (fun _ => ?_) (fun _ => ?_)
    · refine g_sub [0, 1, 2, 3, 4, 5, 6, 7] rfl ?_
      exact s_X7_goAlong_J180 C Rr hk53 hk83 a0 a2 x3 x4 x5 x6 x7 x8 h0 h2 m0
    · refine g_aload_n C dX7_goAlong_107 0 rfl rfl ?_
      refine g_iload C dX7_goAlong_108 6 rfl ?_
      refine g_iload C dX7_goAlong_110 7 rfl ?_
      refine g_callVi C cv_X7_maySell (ct_X7_maySell a0 x7 x8 h0 m0) q_379 h0 (by decide) rfl rfl (Nat.le_of_ble_eq_true rfl) dX7_goAlong_112 (fun r2 m3 => ?_)
      refine g_if_eq C 180 dX7_goAlong_115 (by decide) (fun _ => ?_) (fun _ => ?_)
      · refine g_sub [0, 1, 2, 3, 4, 5, 6, 7] rfl ?_
        exact s_X7_goAlong_J180 C Rr hk53 hk83 a0 a2 x3 x4 x5 x6 x7 x8 h0 h2 m3
      · refine g_aload_n C dX7_goAlong_118 0 rfl rfl ?_
        refine g_iload C dX7_goAlong_119 6 rfl ?_
        refine g_iload C dX7_goAlong_121 7 rfl ?_
        refine g_callVi C cv_X7_priceOf (ct_X7_priceOf a0 x7 x8 h0 m3) q_652 h0 (by decide) rfl rfl (Nat.le_of_ble_eq_true rfl) dX7_goAlong_123 (fun r4 m5 => ?_)
        refine g_istore C dX7_goAlong_126 (by decide) rfl ?_
        refine g_iload C dX7_goAlong_128 0 rfl ?_
        refine g_iload C dX7_goAlong_130 4 rfl ?_
        refine g_icmp_gt C 180 dX7_goAlong_132 (by decide) (fun _ => ?_) (fun _ => ?_)
        · refine g_sub [1, 2, 3, 4, 5, 6, 7, 8] rfl ?_
          exact s_X7_goAlong_J180 C Rr hk53 hk83 a0 a2 x3 x4 x5 x6 x7 x8 h0 h2 m5
        · refine g_aload_n C dX7_goAlong_135 1 rfl rfl ?_
          refine g_getr C 3 2 Fx7 h0 (by decide) rfl rfl q_131 dX7_goAlong_136 ?_
          refine g_iload C dX7_goAlong_139 7 rfl ?_
          refine g_aald10 C (cl_7_3 h0) dX7_goAlong_141 (fun g6 => ?_)
          refine g_getr C 4 2 Fx5 (ca_10 (cl_7_3 h0) g6) (by decide) rfl rfl q_63 dX7_goAlong_142 ?_
          refine g_iload C dX7_goAlong_145 8 rfl ?_
          refine g_dup2 C dX7_goAlong_147 rfl rfl ?_
          refine g_iald (n := 6) C (cl_5_4 (ca_10 (cl_7_3 h0) g6)) dX7_goAlong_148 (fun _ => ?_)
          refine g_iconst C (1 : Int32) dX7_goAlong_149 rfl ?_
          refine g_isub C dX7_goAlong_150 ?_
          refine g_iast (n := 6) C (cl_5_4 (ca_10 (cl_7_3 h0) g6)) dX7_goAlong_151 (fun m7 => ?_)
          refine g_aload_n C dX7_goAlong_152 1 rfl rfl ?_
          refine g_getr C 3 2 Fx7 h0 (by decide) rfl rfl q_131 dX7_goAlong_153 ?_
          refine g_iload C dX7_goAlong_156 7 rfl ?_
          refine g_aald10 C (cl_7_3 h0) dX7_goAlong_158 (fun g8 => ?_)
          refine g_iload C dX7_goAlong_159 0 rfl ?_
          refine g_callVv C cv_X5_earn (ct_X5_earn ((a0 + 2) + 5 + 3 * x7.toNatClampNeg) r4 (ca_10 (cl_7_3 h0) g8) m7) q_637 (ca_10 (cl_7_3 h0) g8) (by decide) rfl rfl (Nat.le_of_ble_eq_true rfl) dX7_goAlong_161 (fun r9 m10 => ?_)
          refine g_iload C dX7_goAlong_164 4 rfl ?_
          refine g_iload C dX7_goAlong_166 0 rfl ?_
          refine g_isub C dX7_goAlong_168 ?_
          refine g_bnd (fun y11 => ?_)
          refine g_istore C dX7_goAlong_169 (by decide) rfl ?_
          refine g_iload C dX7_goAlong_171 5 rfl ?_
          refine g_iconst C (1 : Int32) dX7_goAlong_173 rfl ?_
          refine g_iload C dX7_goAlong_174 8 rfl ?_
          refine g_ishl C dX7_goAlong_176 ?_
          refine g_ior C dX7_goAlong_177 ?_
          refine g_bnd (fun y12 => ?_)
          refine g_istore C dX7_goAlong_178 (by decide) rfl ?_
          refine g_sub [3, 4, 5, 1, 0, 6, 7, 8] rfl ?_
          exact s_X7_goAlong_J180 C Rr hk53 hk83 a0 a2 x3 y11 y12 x6 x7 x8 h0 h2 m10
theorem s_X7_goAlong_L83 {K : KT}  (C : Cx K cX7_goAlong RX7 10 4) (Rr : Rx K (some .int))  {k53 : Nat → Nat → Int32 → Int32 → Int32 → Int32 → Mem → Res} (hk53 : ∀ (a0 : Nat) (a2 : Nat) (x3 : Int32) (x4 : Int32) (x5 : Int32) (x6 : Int32) (h0 : tg a0 = 7) (h2 : tg a2 = 0) (m0 : Mem), G K 53 [(0, .ref (kf K a0)), (2, .ref (kf K a2)), (3, .int x3), (4, .int x4), (5, .int x5), (6, .int x6)] [] m0 (k53 a0 a2 x3 x4 x5 x6 m0)) : ∀ (n : Nat) (a0 : Nat) (a2 : Nat) (x3 : Int32) (x4 : Int32) (x5 : Int32) (x6 : Int32) (x7 : Int32) (x8 : Int32) (h0 : tg a0 = 7) (h2 : tg a2 = 0) (m0 : Mem), G K 83 [(0, .ref (kf K a0)), (2, .ref (kf K a2)), (3, .int x3), (4, .int x4), (5, .int x5), (6, .int x6), (7, .int x7), (8, .int x8)] [] m0 (X7_goAlong_L83 k53 n a0 a2 x3 x4 x5 x6 x7 x8 m0) := by
  intro n
  induction n with
  | zero => intros; exact g_none
  | succ n ih =>
    intro a0 a2 x3 x4 x5 x6 x7 x8 h0 h2 m0
    exact s_X7_goAlong_L83B C Rr hk53 ih a0 a2 x3 x4 x5 x6 x7 x8 h0 h2 m0
set_option maxHeartbeats 2000000 in
theorem s_X7_goAlong_L53B {K : KT}  (C : Cx K cX7_goAlong RX7 10 4) (Rr : Rx K (some .int))  {k53 : Nat → Nat → Int32 → Int32 → Int32 → Int32 → Mem → Res} (hk53 : ∀ (a0 : Nat) (a2 : Nat) (x3 : Int32) (x4 : Int32) (x5 : Int32) (x6 : Int32) (h0 : tg a0 = 7) (h2 : tg a2 = 0) (m0 : Mem), G K 53 [(0, .ref (kf K a0)), (2, .ref (kf K a2)), (3, .int x3), (4, .int x4), (5, .int x5), (6, .int x6)] [] m0 (k53 a0 a2 x3 x4 x5 x6 m0)) (a0 : Nat) (a2 : Nat) (x3 : Int32) (x4 : Int32) (x5 : Int32) (x6 : Int32) (h0 : tg a0 = 7) (h2 : tg a2 = 0) (m0 : Mem) : G K 53 [(0, .ref (kf K a0)), (2, .ref (kf K a2)), (3, .int x3), (4, .int x4), (5, .int x5), (6, .int x6)] [] m0 (X7_goAlong_L53B k53 a0 a2 x3 x4 x5 x6 m0) := by
  unfold X7_goAlong_L53B
  refine g_iload C dX7_goAlong_53 5 rfl ?_
  refine g_iload_n C dX7_goAlong_55 2 rfl rfl ?_
  refine g_icmp_ge C 192 dX7_goAlong_56 (by decide) (fun _ => ?_) (fun _ => ?_)
  · refine g_sub [4] rfl ?_
    exact s_X7_goAlong_J192 C Rr x5 m0
  · refine g_iload C dX7_goAlong_59 4 rfl ?_
    refine g_aload_n C dX7_goAlong_61 1 rfl rfl ?_
    refine g_geti C 0 Fx0 h2 (by decide) rfl rfl q_87 dX7_goAlong_62 ?_
    refine g_icmp_eq C 192 dX7_goAlong_65 (by decide) (fun _ => ?_) (fun _ => ?_)
    · refine g_sub [4] rfl ?_
      exact s_X7_goAlong_J192 C Rr x5 m0
    · refine g_aload_n C dX7_goAlong_68 0 rfl rfl ?_
      refine g_aload_n C dX7_goAlong_69 1 rfl rfl ?_
      refine g_geti C 2 Fx0 h2 (by decide) rfl rfl q_93 dX7_goAlong_70 ?_
      refine g_iload C dX7_goAlong_73 5 rfl ?_
      refine g_callVi C cv_X7_placeOf (ct_X7_placeOf a0 (m0 a2 2) x6 h0 m0) q_673 h0 (by decide) rfl rfl (Nat.le_of_ble_eq_true rfl) dX7_goAlong_75 (fun r1 m2 => ?_)
      refine g_istore C dX7_goAlong_78 (by decide) rfl ?_
      refine g_iconst C (0 : Int32) dX7_goAlong_80 rfl ?_
      refine g_istore C dX7_goAlong_81 (by decide) rfl ?_
      refine g_sub [2, 3, 4, 5, 6, 7, 1, 0] rfl ?_
      exact s_X7_goAlong_L83 C Rr hk53 FU a0 a2 x3 x4 x5 x6 r1 (0 : Int32) h0 h2 m2
theorem s_X7_goAlong_L53 {K : KT}  (C : Cx K cX7_goAlong RX7 10 4) (Rr : Rx K (some .int))    : ∀ (n : Nat) (a0 : Nat) (a2 : Nat) (x3 : Int32) (x4 : Int32) (x5 : Int32) (x6 : Int32) (h0 : tg a0 = 7) (h2 : tg a2 = 0) (m0 : Mem), G K 53 [(0, .ref (kf K a0)), (2, .ref (kf K a2)), (3, .int x3), (4, .int x4), (5, .int x5), (6, .int x6)] [] m0 (X7_goAlong_L53 n a0 a2 x3 x4 x5 x6 m0) := by
  intro n
  induction n with
  | zero => intros; exact g_none
  | succ n ih =>
    intro a0 a2 x3 x4 x5 x6 h0 h2 m0
    exact s_X7_goAlong_L53B C Rr  ih a0 a2 x3 x4 x5 x6 h0 h2 m0
set_option maxHeartbeats 2000000 in
theorem s_X7_goAlong_J40 {K : KT}  (C : Cx K cX7_goAlong RX7 10 4) (Rr : Rx K (some .int))    (a0 : Nat) (a2 : Nat) (xs0 : Int32) (h0 : tg a0 = 7) (h2 : tg a2 = 0) (m0 : Mem) : G K 40 [(0, .ref (kf K a0)), (2, .ref (kf K a2))] [.int xs0] m0 (X7_goAlong_J40 a0 a2 xs0 m0) := by
  unfold X7_goAlong_J40
  refine g_istore_n C dX7_goAlong_40 rfl (by decide) rfl ?_
  refine g_aload_n C dX7_goAlong_41 2 rfl rfl ?_
  refine g_geti C 3 Fx0 h2 (by decide) rfl rfl q_96 dX7_goAlong_42 ?_
  refine g_bnd (fun y1 => ?_)
  refine g_istore C dX7_goAlong_45 (by decide) rfl ?_
  refine g_iconst C (0 : Int32) dX7_goAlong_47 rfl ?_
  refine g_istore C dX7_goAlong_48 (by decide) rfl ?_
  refine g_iconst C (0 : Int32) dX7_goAlong_50 rfl ?_
  refine g_istore C dX7_goAlong_51 (by decide) rfl ?_
  refine g_sub [4, 5, 3, 2, 1, 0] rfl ?_
  exact s_X7_goAlong_L53 C Rr FU a0 a2 xs0 y1 (0 : Int32) (0 : Int32) h0 h2 m0
set_option maxHeartbeats 2000000 in
theorem s_X7_goAlong_J29 {K : KT}  (C : Cx K cX7_goAlong RX7 10 4) (Rr : Rx K (some .int))    (a0 : Nat) (a2 : Nat) (h0 : tg a0 = 7) (h2 : tg a2 = 0) (m0 : Mem) : G K 29 [(0, .ref (kf K a0)), (2, .ref (kf K a2))] [] m0 (X7_goAlong_J29 a0 a2 m0) := by
  unfold X7_goAlong_J29
  refine g_aload_n C dX7_goAlong_29 1 rfl rfl ?_
  refine g_geti C 1 Fx0 h2 (by decide) rfl rfl q_90 dX7_goAlong_30 ?_
  refine g_aload_n C dX7_goAlong_33 0 rfl rfl ?_
  refine g_geti C 4 Fx7 h0 (by decide) rfl rfl q_134 dX7_goAlong_34 ?_
  refine g_mmin C q_445 q_446 q_12 q_447 (by decide) (Nat.le_of_ble_eq_true rfl) dX7_goAlong_37 ?_
  refine g_sub [0, 1] rfl ?_
  exact s_X7_goAlong_J40 C Rr a0 a2 (imin (m0 a2 1) (m0 a0 4)) h0 h2 m0
set_option maxHeartbeats 2000000 in
theorem s_X7_goAlong {K : KT}  (C : Cx K cX7_goAlong RX7 10 4) (Rr : Rx K (some .int))  (a0 : Nat) (x1 : Int32) (h0 : tg a0 = 7) (m0 : Mem) : G K 0 [(0, .ref (kf K a0)), (1, .int x1)] [] m0 (f_X7_goAlong a0 x1 m0) := by
  unfold f_X7_goAlong
  refine g_aload_n C dX7_goAlong_0 0 rfl rfl ?_
  refine g_getr C 5 3 Fx7 h0 (by decide) rfl rfl q_137 dX7_goAlong_1 ?_
  refine g_iload_n C dX7_goAlong_4 1 rfl rfl ?_
  refine g_aald11 C (cl_7_5 h0) dX7_goAlong_5 (fun g1 => ?_)
  refine g_astore_n C dX7_goAlong_6 rfl (by decide) rfl ?_
  refine g_aload_n C dX7_goAlong_7 1 rfl rfl ?_
  refine g_geti C 1 Fx7 h0 (by decide) rfl rfl q_127 dX7_goAlong_8 ?_
  refine g_iconst C (1 : Int32) dX7_goAlong_11 rfl ?_
  refine g_icmp_ne C 29 dX7_goAlong_12 (by decide) (fun _ => ?_) (fun _ => ?_)
  · refine g_sub [1, 0] rfl ?_
    exact s_X7_goAlong_J29 C Rr a0 ((a0 + 3) + 22 + 1 * x1.toNatClampNeg) h0 (ca_11 (cl_7_5 h0) g1) m0
  · refine g_aload_n C dX7_goAlong_15 1 rfl rfl ?_
    refine g_geti C 4 Fx7 h0 (by decide) rfl rfl q_134 dX7_goAlong_16 ?_
    refine g_if_le C 29 dX7_goAlong_19 (by decide) (fun _ => ?_) (fun _ => ?_)
    · refine g_sub [1, 0] rfl ?_
      exact s_X7_goAlong_J29 C Rr a0 ((a0 + 3) + 22 + 1 * x1.toNatClampNeg) h0 (ca_11 (cl_7_5 h0) g1) m0
    · refine g_aload_n C dX7_goAlong_22 0 rfl rfl ?_
      refine g_geti C 1 Fx0 (ca_11 (cl_7_5 h0) g1) (by decide) rfl rfl q_90 dX7_goAlong_23 ?_
      refine g_goto C 40 dX7_goAlong_26 (by decide) ?_
      refine g_sub [1, 0] rfl ?_
      exact s_X7_goAlong_J40 C Rr a0 ((a0 + 3) + 22 + 1 * x1.toNatClampNeg) (m0 ((a0 + 3) + 22 + 1 * x1.toNatClampNeg) 1) h0 (ca_11 (cl_7_5 h0) g1) m0
theorem ct_X7_goAlong {Ω : OT} (a0 : Nat) (x1 : Int32) (h0 : tg a0 = 7) (m0 : Mem) : Ct Ω yX7_goAlong cX7_goAlong 10 (some .int) 4 [.ref (oF Ω a0), .int x1] m0 (f_X7_goAlong a0 x1 m0) := by
  refine Ct_of (by decide) (Nat.le_of_ble_eq_true rfl) ?_
  intro K hK C Rr
  subst hK
  exact s_X7_goAlong C Rr  a0 x1 h0 m0
def f_X3_startOf  (x0 : Int32) (x1 : Int32) (m0 : Mem) : Res :=
  some (((x0 * (6 : Int32)) + x1) * (6 : Int32), m0)
set_option maxHeartbeats 2000000 in
theorem s_X3_startOf {K : KT}  (C : Cx K cX3_startOf RX3 2 1) (Rr : Rx K (some .int))  (x0 : Int32) (x1 : Int32)  (m0 : Mem) : G K 0 [(0, .int x0), (1, .int x1)] [] m0 (f_X3_startOf x0 x1 m0) := by
  unfold f_X3_startOf
  refine g_iload_n C dX3_startOf_0 0 rfl rfl ?_
  refine g_bipush C (6 : Int32) dX3_startOf_1 rfl ?_
  refine g_imul C dX3_startOf_3 ?_
  refine g_iload_n C dX3_startOf_4 1 rfl rfl ?_
  refine g_iadd C dX3_startOf_5 ?_
  refine g_bipush C (6 : Int32) dX3_startOf_6 rfl ?_
  refine g_imul C dX3_startOf_8 ?_
  exact g_iret C Rr dX3_startOf_9
theorem ct_X3_startOf {Ω : OT} (x0 : Int32) (x1 : Int32)  (m0 : Mem) : Ct Ω yX3_startOf cX3_startOf 2 (some .int) 1 [.int x0, .int x1] m0 (f_X3_startOf x0 x1 m0) := by
  refine Ct_of (by decide) (Nat.le_of_ble_eq_true rfl) ?_
  intro K hK C Rr
  subst hK
  exact s_X3_startOf C Rr  x0 x1 m0
def X3_judgeSet_J58   (a0 : Nat) (x2 : Int32) (as0 : Nat) (xs1 : Int32) (m0 : Mem) : Res :=
  bnd (mset m0 as0 1 xs1) (fun m1 =>
  bnd (mset m1 a0 0 ((m1 a0 0) + (1 : Int32))) (fun m2 =>
  bnd (mset m2 a0 2 ((m2 a0 2) &&& x2)) (fun m3 =>
  bnd (mset m3 a0 3 ((m3 a0 3) ||| x2)) (fun m4 =>
  some (0, m4)))))
def X3_judgeSet_L2B  (k2 : Nat → Nat → Int32 → Int32 → Mem → Res) (a0 : Nat) (a1 : Nat) (x2 : Int32) (x3 : Int32) (m0 : Mem) : Res :=
  (if (6 : Int32) ≤ x3 then
  (if (m0 a0 0) = 0 then
  X3_judgeSet_J58 a0 x2 a0 x2 m0
  else
  X3_judgeSet_J58 a0 x2 a0 (imin (m0 a0 1) x2) m0)
  else
  gd (inb (m0 a0 4) 6) (
  gd (inb x3 6) (
  gd (inb x3 6) (
  (if (m0 (((a1 + 2) + 5 + 3 * (m0 a0 4).toNatClampNeg) + 2) x3.toNatClampNeg) = (m0 (a0 + 1) x3.toNatClampNeg) then
  bnd (x3 + (1 : Int32)) (fun y2 =>
  k2 a0 a1 x2 y2 m0)
  else
  some (0, m0))))))
def X3_judgeSet_L2   : Nat → Nat → Nat → Int32 → Int32 → Mem → Res
  | 0 => fun _ _ _ _ _ => none
  | n + 1 => X3_judgeSet_L2B (X3_judgeSet_L2 n)
def f_X3_judgeSet  (a0 : Nat) (a1 : Nat) (x2 : Int32) (m0 : Mem) : Res :=
  X3_judgeSet_L2 FU a0 a1 x2 (0 : Int32) m0
set_option maxHeartbeats 2000000 in
theorem s_X3_judgeSet_J58 {K : KT}  (C : Cx K cX3_judgeSet RX3 4 1) (Rr : Rx K none)    (a0 : Nat) (x2 : Int32) (as0 : Nat) (xs1 : Int32) (h0 : tg a0 = 3) (hs0 : tg as0 = 3) (m0 : Mem) : G K 58 [(0, .ref (kf K a0)), (2, .int x2)] [.int xs1, .ref (kf K as0)] m0 (X3_judgeSet_J58 a0 x2 as0 xs1 m0) := by
  unfold X3_judgeSet_J58
  refine g_puti C 1 Fx3 hs0 (by decide) rfl rfl rfl rfl q_264 dX3_judgeSet_58 (fun m1 => ?_)
  refine g_aload_n C dX3_judgeSet_61 0 rfl rfl ?_
  refine g_dup C dX3_judgeSet_62 rfl ?_
  refine g_geti C 0 Fx3 h0 (by decide) rfl rfl q_262 dX3_judgeSet_63 ?_
  refine g_iconst C (1 : Int32) dX3_judgeSet_66 rfl ?_
  refine g_iadd C dX3_judgeSet_67 ?_
  refine g_puti C 0 Fx3 h0 (by decide) rfl rfl rfl rfl q_262 dX3_judgeSet_68 (fun m2 => ?_)
  refine g_aload_n C dX3_judgeSet_71 0 rfl rfl ?_
  refine g_dup C dX3_judgeSet_72 rfl ?_
  refine g_geti C 2 Fx3 h0 (by decide) rfl rfl q_266 dX3_judgeSet_73 ?_
  refine g_iload_n C dX3_judgeSet_76 1 rfl rfl ?_
  refine g_iand C dX3_judgeSet_77 ?_
  refine g_puti C 2 Fx3 h0 (by decide) rfl rfl rfl rfl q_266 dX3_judgeSet_78 (fun m3 => ?_)
  refine g_aload_n C dX3_judgeSet_81 0 rfl rfl ?_
  refine g_dup C dX3_judgeSet_82 rfl ?_
  refine g_geti C 3 Fx3 h0 (by decide) rfl rfl q_268 dX3_judgeSet_83 ?_
  refine g_iload_n C dX3_judgeSet_86 1 rfl rfl ?_
  refine g_ior C dX3_judgeSet_87 ?_
  refine g_puti C 3 Fx3 h0 (by decide) rfl rfl rfl rfl q_268 dX3_judgeSet_88 (fun m4 => ?_)
  exact g_vret C Rr dX3_judgeSet_91
set_option maxHeartbeats 2000000 in
theorem s_X3_judgeSet_L2B {K : KT}  (C : Cx K cX3_judgeSet RX3 4 1) (Rr : Rx K none)  {k2 : Nat → Nat → Int32 → Int32 → Mem → Res} (hk2 : ∀ (a0 : Nat) (a1 : Nat) (x2 : Int32) (x3 : Int32) (h0 : tg a0 = 3) (h1 : tg a1 = 7) (m0 : Mem), G K 2 [(0, .ref (kf K a0)), (1, .ref (kf K a1)), (2, .int x2), (3, .int x3)] [] m0 (k2 a0 a1 x2 x3 m0)) (a0 : Nat) (a1 : Nat) (x2 : Int32) (x3 : Int32) (h0 : tg a0 = 3) (h1 : tg a1 = 7) (m0 : Mem) : G K 2 [(0, .ref (kf K a0)), (1, .ref (kf K a1)), (2, .int x2), (3, .int x3)] [] m0 (X3_judgeSet_L2B k2 a0 a1 x2 x3 m0) := by
  unfold X3_judgeSet_L2B
  refine g_iload_n C dX3_judgeSet_2 3 rfl rfl ?_
  refine g_bipush C (6 : Int32) dX3_judgeSet_3 rfl ?_
  refine g_icmp_ge C 38 dX3_judgeSet_5 (by decide) (fun _ => ?_) (fun _ => ?_)
  · refine g_aload_n C dX3_judgeSet_38 0 rfl rfl ?_
    refine g_aload_n C dX3_judgeSet_39 0 rfl rfl ?_
    refine g_geti C 0 Fx3 h0 (by decide) rfl rfl q_262 dX3_judgeSet_40 ?_
    refine g_if_ne C 50 dX3_judgeSet_43 (by decide) (fun _ => ?_) (fun _ => ?_)
    · refine g_aload_n C dX3_judgeSet_50 0 rfl rfl ?_
      refine g_geti C 1 Fx3 h0 (by decide) rfl rfl q_264 dX3_judgeSet_51 ?_
      refine g_iload_n C dX3_judgeSet_54 2 rfl rfl ?_
      refine g_mmin C q_880 q_446 q_12 q_447 (by decide) (Nat.le_of_ble_eq_true rfl) dX3_judgeSet_55 ?_
      refine g_sub [0, 2] rfl ?_
      exact s_X3_judgeSet_J58 C Rr a0 x2 a0 (imin (m0 a0 1) x2) h0 h0 m0
    · refine g_iload_n C dX3_judgeSet_46 2 rfl rfl ?_
      refine g_goto C 58 dX3_judgeSet_47 (by decide) ?_
      refine g_sub [0, 2] rfl ?_
      exact s_X3_judgeSet_J58 C Rr a0 x2 a0 x2 h0 h0 m0
  · refine g_aload_n C dX3_judgeSet_8 1 rfl rfl ?_
    refine g_getr C 3 2 Fx7 h1 (by decide) rfl rfl q_132 dX3_judgeSet_9 ?_
    refine g_aload_n C dX3_judgeSet_12 0 rfl rfl ?_
    refine g_geti C 4 Fx3 h0 (by decide) rfl rfl q_270 dX3_judgeSet_13 ?_
    refine g_aald10 C (cl_7_3 h1) dX3_judgeSet_16 (fun g1 => ?_)
    refine g_getr C 4 2 Fx5 (ca_10 (cl_7_3 h1) g1) (by decide) rfl rfl q_62 dX3_judgeSet_17 ?_
    refine g_iload_n C dX3_judgeSet_20 3 rfl rfl ?_
    refine g_iald (n := 6) C (cl_5_4 (ca_10 (cl_7_3 h1) g1)) dX3_judgeSet_21 (fun _ => ?_)
    refine g_aload_n C dX3_judgeSet_22 0 rfl rfl ?_
    refine g_getr C 5 1 Fx3 h0 (by decide) rfl rfl q_271 dX3_judgeSet_23 ?_
    refine g_iload_n C dX3_judgeSet_26 3 rfl rfl ?_
    refine g_iald (n := 6) C (cl_3_5 h0) dX3_judgeSet_27 (fun _ => ?_)
    refine g_icmp_eq C 32 dX3_judgeSet_28 (by decide) (fun _ => ?_) (fun _ => ?_)
    · refine g_iinc (k := 3) C dX3_judgeSet_32 rfl (w := (1 : Int32)) rfl (by decide) (fun v_ => [(3, .int v_), (0, .ref (kf K a0)), (1, .ref (kf K a1)), (2, .int x2)]) (fun _ => rfl) (fun y2 => ?_)
      refine g_goto C 2 dX3_judgeSet_35 (by decide) ?_
      refine g_sub [1, 2, 3, 0] rfl ?_
      exact hk2 a0 a1 x2 y2 h0 h1 m0
    · exact g_vret C Rr dX3_judgeSet_31
theorem s_X3_judgeSet_L2 {K : KT}  (C : Cx K cX3_judgeSet RX3 4 1) (Rr : Rx K none)    : ∀ (n : Nat) (a0 : Nat) (a1 : Nat) (x2 : Int32) (x3 : Int32) (h0 : tg a0 = 3) (h1 : tg a1 = 7) (m0 : Mem), G K 2 [(0, .ref (kf K a0)), (1, .ref (kf K a1)), (2, .int x2), (3, .int x3)] [] m0 (X3_judgeSet_L2 n a0 a1 x2 x3 m0) := by
  intro n
  induction n with
  | zero => intros; exact g_none
  | succ n ih =>
    intro a0 a1 x2 x3 h0 h1 m0
    exact s_X3_judgeSet_L2B C Rr  ih a0 a1 x2 x3 h0 h1 m0
set_option maxHeartbeats 2000000 in
theorem s_X3_judgeSet {K : KT}  (C : Cx K cX3_judgeSet RX3 4 1) (Rr : Rx K none)  (a0 : Nat) (a1 : Nat) (x2 : Int32) (h0 : tg a0 = 3) (h1 : tg a1 = 7) (m0 : Mem) : G K 0 [(0, .ref (kf K a0)), (1, .ref (kf K a1)), (2, .int x2)] [] m0 (f_X3_judgeSet a0 a1 x2 m0) := by
  unfold f_X3_judgeSet
  refine g_iconst C (0 : Int32) dX3_judgeSet_0 rfl ?_
  refine g_istore_n C dX3_judgeSet_1 rfl (by decide) rfl ?_
  refine g_sub [1, 2, 3, 0] rfl ?_
  exact s_X3_judgeSet_L2 C Rr FU a0 a1 x2 (0 : Int32) h0 h1 m0
theorem ct_X3_judgeSet {Ω : OT} (a0 : Nat) (a1 : Nat) (x2 : Int32) (h0 : tg a0 = 3) (h1 : tg a1 = 7) (m0 : Mem) : Ct Ω yX3_judgeSet cX3_judgeSet 4 none 1 [.ref (oF Ω a0), .ref (oF Ω a1), .int x2] m0 (f_X3_judgeSet a0 a1 x2 m0) := by
  refine Ct_of (by decide) (Nat.le_of_ble_eq_true rfl) ?_
  intro K hK C Rr
  subst hK
  exact s_X3_judgeSet C Rr  a0 a1 x2 h0 h1 m0
def X3_tryFrom_L90B (R : Nat → Nat → Int32 → Int32 → Mem → Res) (k90 : Nat → Nat → Int32 → Int32 → Mem → Res) (a0 : Nat) (a1 : Nat) (x2 : Int32) (x4 : Int32) (m0 : Mem) : Res :=
  (if (m0 a1 4) ≤ x4 then
  some (0, m0)
  else
  cal (f_X3_startOf x2 x4 m0) (fun r1 m2 =>
  gd (inb x4 6) (
  gd (cpok r1 (0 : Int32) (6 : Int32) 360 6) (bnd (mcpy m2 (a0 + 2) r1.toNatClampNeg (((a1 + 2) + 5 + 3 * x4.toNatClampNeg) + 2) (0 : Int32).toNatClampNeg (6 : Int32).toNatClampNeg) (fun m4 =>
  bnd (x4 + (1 : Int32)) (fun y5 =>
  k90 a0 a1 x2 y5 m4))))))
def X3_tryFrom_L90 (R : Nat → Nat → Int32 → Int32 → Mem → Res)  : Nat → Nat → Nat → Int32 → Int32 → Mem → Res
  | 0 => fun _ _ _ _ _ => none
  | n + 1 => X3_tryFrom_L90B R (X3_tryFrom_L90 R n)
def X3_tryFrom_L27B (R : Nat → Nat → Int32 → Int32 → Mem → Res) (k27 : Nat → Nat → Int32 → Int32 → Int32 → Mem → Res) (a0 : Nat) (a1 : Nat) (x2 : Int32) (x3 : Int32) (x4 : Int32) (m0 : Mem) : Res :=
  (if (m0 a1 4) ≤ x4 then
  cal (f_X7_goAlong a1 x2 m0) (fun r1 m2 =>
  cal (R a0 a1 (x2 + (1 : Int32)) (x3 ||| (isl (1 : Int32) x2)) m2) (fun r3 m4 =>
  X3_tryFrom_L90 R FU a0 a1 x2 (0 : Int32) m4))
  else
  gd (inb x4 6) (
  cal (f_X3_startOf x2 x4 m0) (fun r6 m7 =>
  gd (cpok (0 : Int32) r6 (6 : Int32) 6 360) (bnd (mcpy m7 (((a1 + 2) + 5 + 3 * x4.toNatClampNeg) + 2) (0 : Int32).toNatClampNeg (a0 + 2) r6.toNatClampNeg (6 : Int32).toNatClampNeg) (fun m8 =>
  bnd (x4 + (1 : Int32)) (fun y9 =>
  k27 a0 a1 x2 x3 y9 m8))))))
def X3_tryFrom_L27 (R : Nat → Nat → Int32 → Int32 → Mem → Res)  : Nat → Nat → Nat → Int32 → Int32 → Int32 → Mem → Res
  | 0 => fun _ _ _ _ _ _ => none
  | n + 1 => X3_tryFrom_L27B R (X3_tryFrom_L27 R n)
def f_X3_tryFrom_B (R : Nat → Nat → Int32 → Int32 → Mem → Res) (a0 : Nat) (a1 : Nat) (x2 : Int32) (x3 : Int32) (m0 : Mem) : Res :=
  cal (f_X7_hasCustomer a1 x2 m0) (fun r1 m2 =>
  (if r1 = 0 then
  cal (f_X3_judgeSet a0 a1 x3 m2) (fun r5 m6 =>
  some (0, m6))
  else
  cal (R a0 a1 (x2 + (1 : Int32)) x3 m2) (fun r3 m4 =>
  X3_tryFrom_L27 R FU a0 a1 x2 x3 (0 : Int32) m4)))
def f_X3_tryFrom : Nat → Nat → Nat → Int32 → Int32 → Mem → Res
  | 0 => fun _ _ _ _ _ => none
  | n + 1 => f_X3_tryFrom_B (f_X3_tryFrom n)
set_option maxHeartbeats 2000000 in
theorem s_X3_tryFrom_L90B {K : KT} {R : Nat → Nat → Int32 → Int32 → Mem → Res} {dR : Nat} (C : Cx K cX3_tryFrom RX3 5 (dR + 1)) (Rr : Rx K none) (hR : ∀ (a0 : Nat) (a1 : Nat) (x2 : Int32) (x3 : Int32) (h0 : tg a0 = 3) (h1 : tg a1 = 7) (m0 : Mem), Ct (kO K) yX3_tryFrom cX3_tryFrom 5 none dR [.ref (oF (kO K) a0), .ref (oF (kO K) a1), .int x2, .int x3] m0 (R a0 a1 x2 x3 m0)) (hd : 16 ≤ dR) {k90 : Nat → Nat → Int32 → Int32 → Mem → Res} (hk90 : ∀ (a0 : Nat) (a1 : Nat) (x2 : Int32) (x4 : Int32) (h0 : tg a0 = 3) (h1 : tg a1 = 7) (m0 : Mem), G K 90 [(0, .ref (kf K a0)), (1, .ref (kf K a1)), (2, .int x2), (4, .int x4)] [] m0 (k90 a0 a1 x2 x4 m0)) (a0 : Nat) (a1 : Nat) (x2 : Int32) (x4 : Int32) (h0 : tg a0 = 3) (h1 : tg a1 = 7) (m0 : Mem) : G K 90 [(0, .ref (kf K a0)), (1, .ref (kf K a1)), (2, .int x2), (4, .int x4)] [] m0 (X3_tryFrom_L90B R k90 a0 a1 x2 x4 m0) := by
  unfold X3_tryFrom_L90B
  refine g_iload C dX3_tryFrom_90 3 rfl ?_
  refine g_aload_n C dX3_tryFrom_92 1 rfl rfl ?_
  refine g_geti C 4 Fx7 h1 (by decide) rfl rfl q_135 dX3_tryFrom_93 ?_
  refine g_icmp_ge C 131 dX3_tryFrom_96 (by decide) (fun _ => ?_) (fun _ => ?_)
  · exact g_vret C Rr dX3_tryFrom_131
  · refine g_aload_n C dX3_tryFrom_99 0 rfl rfl ?_
    refine g_getr C 6 2 Fx3 h0 (by decide) rfl rfl q_272 dX3_tryFrom_100 ?_
    refine g_iload_n C dX3_tryFrom_103 2 rfl rfl ?_
    refine g_iload C dX3_tryFrom_104 3 rfl ?_
    refine g_callSi C cv_X3_startOf q_882 (ct_X3_startOf x2 x4  m0) q_881 (by omega) rfl rfl (Nat.le_of_ble_eq_true rfl) dX3_tryFrom_106 (fun r1 m2 => ?_)
    refine g_aload_n C dX3_tryFrom_109 1 rfl rfl ?_
    refine g_getr C 3 2 Fx7 h1 (by decide) rfl rfl q_132 dX3_tryFrom_110 ?_
    refine g_iload C dX3_tryFrom_113 3 rfl ?_
    refine g_aald10 C (cl_7_3 h1) dX3_tryFrom_115 (fun g3 => ?_)
    refine g_getr C 4 2 Fx5 (ca_10 (cl_7_3 h1) g3) (by decide) rfl rfl q_62 dX3_tryFrom_116 ?_
    refine g_iconst C (0 : Int32) dX3_tryFrom_119 rfl ?_
    refine g_bipush C (6 : Int32) dX3_tryFrom_120 rfl ?_
    refine g_copy (na := 360) (nb := 6) C q_870 q_617 q_616 q_18 (cl_3_6 h0) (cl_5_4 (ca_10 (cl_7_3 h1) g3)) (by omega) (Nat.le_of_ble_eq_true rfl) dX3_tryFrom_122 (fun m4 => ?_)
    refine g_iinc (k := 3) C dX3_tryFrom_125 rfl (w := (1 : Int32)) rfl (by decide) (fun v_ => [(4, .int v_), (0, .ref (kf K a0)), (1, .ref (kf K a1)), (2, .int x2)]) (fun _ => rfl) (fun y5 => ?_)
    refine g_goto C 90 dX3_tryFrom_128 (by decide) ?_
    refine g_sub [1, 2, 3, 0] rfl ?_
    exact hk90 a0 a1 x2 y5 h0 h1 m4
theorem s_X3_tryFrom_L90 {K : KT} {R : Nat → Nat → Int32 → Int32 → Mem → Res} {dR : Nat} (C : Cx K cX3_tryFrom RX3 5 (dR + 1)) (Rr : Rx K none) (hR : ∀ (a0 : Nat) (a1 : Nat) (x2 : Int32) (x3 : Int32) (h0 : tg a0 = 3) (h1 : tg a1 = 7) (m0 : Mem), Ct (kO K) yX3_tryFrom cX3_tryFrom 5 none dR [.ref (oF (kO K) a0), .ref (oF (kO K) a1), .int x2, .int x3] m0 (R a0 a1 x2 x3 m0)) (hd : 16 ≤ dR)   : ∀ (n : Nat) (a0 : Nat) (a1 : Nat) (x2 : Int32) (x4 : Int32) (h0 : tg a0 = 3) (h1 : tg a1 = 7) (m0 : Mem), G K 90 [(0, .ref (kf K a0)), (1, .ref (kf K a1)), (2, .int x2), (4, .int x4)] [] m0 (X3_tryFrom_L90 R n a0 a1 x2 x4 m0) := by
  intro n
  induction n with
  | zero => intros; exact g_none
  | succ n ih =>
    intro a0 a1 x2 x4 h0 h1 m0
    exact s_X3_tryFrom_L90B C Rr hR hd ih a0 a1 x2 x4 h0 h1 m0
set_option maxHeartbeats 2000000 in
theorem s_X3_tryFrom_L27B {K : KT} {R : Nat → Nat → Int32 → Int32 → Mem → Res} {dR : Nat} (C : Cx K cX3_tryFrom RX3 5 (dR + 1)) (Rr : Rx K none) (hR : ∀ (a0 : Nat) (a1 : Nat) (x2 : Int32) (x3 : Int32) (h0 : tg a0 = 3) (h1 : tg a1 = 7) (m0 : Mem), Ct (kO K) yX3_tryFrom cX3_tryFrom 5 none dR [.ref (oF (kO K) a0), .ref (oF (kO K) a1), .int x2, .int x3] m0 (R a0 a1 x2 x3 m0)) (hd : 16 ≤ dR) {k27 : Nat → Nat → Int32 → Int32 → Int32 → Mem → Res} (hk27 : ∀ (a0 : Nat) (a1 : Nat) (x2 : Int32) (x3 : Int32) (x4 : Int32) (h0 : tg a0 = 3) (h1 : tg a1 = 7) (m0 : Mem), G K 27 [(0, .ref (kf K a0)), (1, .ref (kf K a1)), (2, .int x2), (3, .int x3), (4, .int x4)] [] m0 (k27 a0 a1 x2 x3 x4 m0)) (a0 : Nat) (a1 : Nat) (x2 : Int32) (x3 : Int32) (x4 : Int32) (h0 : tg a0 = 3) (h1 : tg a1 = 7) (m0 : Mem) : G K 27 [(0, .ref (kf K a0)), (1, .ref (kf K a1)), (2, .int x2), (3, .int x3), (4, .int x4)] [] m0 (X3_tryFrom_L27B R k27 a0 a1 x2 x3 x4 m0) := by
  unfold X3_tryFrom_L27B
  refine g_iload C dX3_tryFrom_27 4 rfl ?_
  refine g_aload_n C dX3_tryFrom_29 1 rfl rfl ?_
  refine g_geti C 4 Fx7 h1 (by decide) rfl rfl q_135 dX3_tryFrom_30 ?_
  refine g_icmp_ge C 68 dX3_tryFrom_33 (by decide) (fun _ => ?_) (fun _ => ?_)
  · refine g_aload_n C dX3_tryFrom_68 1 rfl rfl ?_
    refine g_iload_n C dX3_tryFrom_69 2 rfl rfl ?_
    refine g_callVi C cv_X7_goAlong (ct_X7_goAlong a1 x2 h1 m0) q_884 h1 (by omega) rfl rfl (Nat.le_of_ble_eq_true rfl) dX3_tryFrom_70 (fun r1 m2 => ?_)
    refine g_pop C dX3_tryFrom_73 rfl ?_
    refine g_aload_n C dX3_tryFrom_74 0 rfl rfl ?_
    refine g_aload_n C dX3_tryFrom_75 1 rfl rfl ?_
    refine g_iload_n C dX3_tryFrom_76 2 rfl rfl ?_
    refine g_iconst C (1 : Int32) dX3_tryFrom_77 rfl ?_
    refine g_iadd C dX3_tryFrom_78 ?_
    refine g_iload_n C dX3_tryFrom_79 3 rfl rfl ?_
    refine g_iconst C (1 : Int32) dX3_tryFrom_80 rfl ?_
    refine g_iload_n C dX3_tryFrom_81 2 rfl rfl ?_
    refine g_ishl C dX3_tryFrom_82 ?_
    refine g_ior C dX3_tryFrom_83 ?_
    refine g_callVv C cv_X3_tryFrom (hR a0 a1 (x2 + (1 : Int32)) (x3 ||| (isl (1 : Int32) x2)) h0 h1 m2) q_871 h0 (by omega) rfl rfl (Nat.le_of_ble_eq_true rfl) dX3_tryFrom_84 (fun r3 m4 => ?_)
    refine g_iconst C (0 : Int32) dX3_tryFrom_87 rfl ?_
    refine g_istore C dX3_tryFrom_88 (by decide) rfl ?_
    refine g_sub [1, 2, 3, 0] rfl ?_
    exact s_X3_tryFrom_L90 C Rr hR hd FU a0 a1 x2 (0 : Int32) h0 h1 m4
  · refine g_aload_n C dX3_tryFrom_36 1 rfl rfl ?_
    refine g_getr C 3 2 Fx7 h1 (by decide) rfl rfl q_132 dX3_tryFrom_37 ?_
    refine g_iload C dX3_tryFrom_40 4 rfl ?_
    refine g_aald10 C (cl_7_3 h1) dX3_tryFrom_42 (fun g5 => ?_)
    refine g_getr C 4 2 Fx5 (ca_10 (cl_7_3 h1) g5) (by decide) rfl rfl q_62 dX3_tryFrom_43 ?_
    refine g_iconst C (0 : Int32) dX3_tryFrom_46 rfl ?_
    refine g_aload_n C dX3_tryFrom_47 0 rfl rfl ?_
    refine g_getr C 6 2 Fx3 h0 (by decide) rfl rfl q_272 dX3_tryFrom_48 ?_
    refine g_iload_n C dX3_tryFrom_51 2 rfl rfl ?_
    refine g_iload C dX3_tryFrom_52 4 rfl ?_
    refine g_callSi C cv_X3_startOf q_882 (ct_X3_startOf x2 x4  m0) q_881 (by omega) rfl rfl (Nat.le_of_ble_eq_true rfl) dX3_tryFrom_54 (fun r6 m7 => ?_)
    refine g_bipush C (6 : Int32) dX3_tryFrom_57 rfl ?_
    refine g_copy (na := 6) (nb := 360) C q_870 q_617 q_616 q_18 (cl_5_4 (ca_10 (cl_7_3 h1) g5)) (cl_3_6 h0) (by omega) (Nat.le_of_ble_eq_true rfl) dX3_tryFrom_59 (fun m8 => ?_)
    refine g_iinc (k := 4) C dX3_tryFrom_62 rfl (w := (1 : Int32)) rfl (by decide) (fun v_ => [(4, .int v_), (0, .ref (kf K a0)), (1, .ref (kf K a1)), (2, .int x2), (3, .int x3)]) (fun _ => rfl) (fun y9 => ?_)
    refine g_goto C 27 dX3_tryFrom_65 (by decide) ?_
    refine g_sub [1, 2, 3, 4, 0] rfl ?_
    exact hk27 a0 a1 x2 x3 y9 h0 h1 m8
theorem s_X3_tryFrom_L27 {K : KT} {R : Nat → Nat → Int32 → Int32 → Mem → Res} {dR : Nat} (C : Cx K cX3_tryFrom RX3 5 (dR + 1)) (Rr : Rx K none) (hR : ∀ (a0 : Nat) (a1 : Nat) (x2 : Int32) (x3 : Int32) (h0 : tg a0 = 3) (h1 : tg a1 = 7) (m0 : Mem), Ct (kO K) yX3_tryFrom cX3_tryFrom 5 none dR [.ref (oF (kO K) a0), .ref (oF (kO K) a1), .int x2, .int x3] m0 (R a0 a1 x2 x3 m0)) (hd : 16 ≤ dR)   : ∀ (n : Nat) (a0 : Nat) (a1 : Nat) (x2 : Int32) (x3 : Int32) (x4 : Int32) (h0 : tg a0 = 3) (h1 : tg a1 = 7) (m0 : Mem), G K 27 [(0, .ref (kf K a0)), (1, .ref (kf K a1)), (2, .int x2), (3, .int x3), (4, .int x4)] [] m0 (X3_tryFrom_L27 R n a0 a1 x2 x3 x4 m0) := by
  intro n
  induction n with
  | zero => intros; exact g_none
  | succ n ih =>
    intro a0 a1 x2 x3 x4 h0 h1 m0
    exact s_X3_tryFrom_L27B C Rr hR hd ih a0 a1 x2 x3 x4 h0 h1 m0
set_option maxHeartbeats 2000000 in
theorem s_X3_tryFrom_B {K : KT} {R : Nat → Nat → Int32 → Int32 → Mem → Res} {dR : Nat} (C : Cx K cX3_tryFrom RX3 5 (dR + 1)) (Rr : Rx K none) (hR : ∀ (a0 : Nat) (a1 : Nat) (x2 : Int32) (x3 : Int32) (h0 : tg a0 = 3) (h1 : tg a1 = 7) (m0 : Mem), Ct (kO K) yX3_tryFrom cX3_tryFrom 5 none dR [.ref (oF (kO K) a0), .ref (oF (kO K) a1), .int x2, .int x3] m0 (R a0 a1 x2 x3 m0)) (hd : 16 ≤ dR) (a0 : Nat) (a1 : Nat) (x2 : Int32) (x3 : Int32) (h0 : tg a0 = 3) (h1 : tg a1 = 7) (m0 : Mem) : G K 0 [(0, .ref (kf K a0)), (1, .ref (kf K a1)), (2, .int x2), (3, .int x3)] [] m0 (f_X3_tryFrom_B R a0 a1 x2 x3 m0) := by
  unfold f_X3_tryFrom_B
  refine g_aload_n C dX3_tryFrom_0 1 rfl rfl ?_
  refine g_iload_n C dX3_tryFrom_1 2 rfl rfl ?_
  refine g_callVi C cv_X7_hasCustomer (ct_X7_hasCustomer a1 x2 h1 m0) q_875 h1 (by omega) rfl rfl (Nat.le_of_ble_eq_true rfl) dX3_tryFrom_2 (fun r1 m2 => ?_)
  refine g_if_ne C 15 dX3_tryFrom_5 (by decide) (fun _ => ?_) (fun _ => ?_)
  · refine g_aload_n C dX3_tryFrom_15 0 rfl rfl ?_
    refine g_aload_n C dX3_tryFrom_16 1 rfl rfl ?_
    refine g_iload_n C dX3_tryFrom_17 2 rfl rfl ?_
    refine g_iconst C (1 : Int32) dX3_tryFrom_18 rfl ?_
    refine g_iadd C dX3_tryFrom_19 ?_
    refine g_iload_n C dX3_tryFrom_20 3 rfl rfl ?_
    refine g_callVv C cv_X3_tryFrom (hR a0 a1 (x2 + (1 : Int32)) x3 h0 h1 m2) q_871 h0 (by omega) rfl rfl (Nat.le_of_ble_eq_true rfl) dX3_tryFrom_21 (fun r3 m4 => ?_)
    refine g_iconst C (0 : Int32) dX3_tryFrom_24 rfl ?_
    refine g_istore C dX3_tryFrom_25 (by decide) rfl ?_
    refine g_sub [1, 2, 3, 4, 0] rfl ?_
    exact s_X3_tryFrom_L27 C Rr hR hd FU a0 a1 x2 x3 (0 : Int32) h0 h1 m4
  · refine g_aload_n C dX3_tryFrom_8 0 rfl rfl ?_
    refine g_aload_n C dX3_tryFrom_9 1 rfl rfl ?_
    refine g_iload_n C dX3_tryFrom_10 3 rfl rfl ?_
    refine g_callVv C cv_X3_judgeSet (ct_X3_judgeSet a0 a1 x3 h0 h1 m2) q_876 h0 (by omega) rfl rfl (Nat.le_of_ble_eq_true rfl) dX3_tryFrom_11 (fun r5 m6 => ?_)
    exact g_vret C Rr dX3_tryFrom_14
theorem ct_X3_tryFrom {Ω : OT} : ∀ (n : Nat) (a0 : Nat) (a1 : Nat) (x2 : Int32) (x3 : Int32) (h0 : tg a0 = 3) (h1 : tg a1 = 7) (m0 : Mem), Ct Ω yX3_tryFrom cX3_tryFrom 5 none (16 + 1 * n) [.ref (oF Ω a0), .ref (oF Ω a1), .int x2, .int x3] m0 (f_X3_tryFrom n a0 a1 x2 x3 m0) := by
  intro n
  induction n with
  | zero => intros; intro r μ' h; cases h
  | succ n ih =>
    intro a0 a1 x2 x3 h0 h1 m0
    refine Ct_of (by decide) (Nat.le_of_ble_eq_true rfl) ?_
    intro K hK C Rr
    subst hK
    exact s_X3_tryFrom_B (dR := 16 + 1 * n) C Rr ih (by omega) a0 a1 x2 x3 h0 h1 m0
def f_X3_tryAll  (a0 : Nat) (a1 : Nat) (x2 : Int32) (a3 n3 : Nat) (m0 : Mem) : Res :=
  bnd (mset m0 a0 4 x2) (fun m1 =>
  gd (cpok (0 : Int32) (0 : Int32) (6 : Int32) n3 6) (bnd (mcpy m1 a3 (0 : Int32).toNatClampNeg (a0 + 1) (0 : Int32).toNatClampNeg (6 : Int32).toNatClampNeg) (fun m2 =>
  bnd (mset m2 a0 0 (0 : Int32)) (fun m3 =>
  bnd (mset m3 a0 1 (-1 : Int32)) (fun m4 =>
  bnd (mset m4 a0 2 (-1 : Int32)) (fun m5 =>
  bnd (mset m5 a0 3 (0 : Int32)) (fun m6 =>
  cal (f_X3_tryFrom RF a0 a1 (0 : Int32) (0 : Int32) m6) (fun r7 m8 =>
  some (0, m8)))))))))
set_option maxHeartbeats 2000000 in
theorem s_X3_tryAll {K : KT}  (C : Cx K cX3_tryAll RX3 4 41) (Rr : Rx K none)  (a0 : Nat) (a1 : Nat) (x2 : Int32) (a3 n3 : Nat) (h0 : tg a0 = 3) (h1 : tg a1 = 7) (h3 : tg a3 = 100 + n3) (m0 : Mem) : G K 0 [(0, .ref (kf K a0)), (1, .ref (kf K a1)), (2, .int x2), (3, .ref (kf K a3))] [] m0 (f_X3_tryAll a0 a1 x2 a3 n3 m0) := by
  unfold f_X3_tryAll
  refine g_aload_n C dX3_tryAll_0 0 rfl rfl ?_
  refine g_iload_n C dX3_tryAll_1 2 rfl rfl ?_
  refine g_puti C 4 Fx3 h0 (by decide) rfl rfl rfl rfl q_270 dX3_tryAll_2 (fun m1 => ?_)
  refine g_aload_n C dX3_tryAll_5 3 rfl rfl ?_
  refine g_iconst C (0 : Int32) dX3_tryAll_6 rfl ?_
  refine g_aload_n C dX3_tryAll_7 0 rfl rfl ?_
  refine g_getr C 5 1 Fx3 h0 (by decide) rfl rfl q_271 dX3_tryAll_8 ?_
  refine g_iconst C (0 : Int32) dX3_tryAll_11 rfl ?_
  refine g_bipush C (6 : Int32) dX3_tryAll_12 rfl ?_
  refine g_copy (na := n3) (nb := 6) C q_870 q_617 q_616 q_18 h3 (cl_3_5 h0) (by decide) (Nat.le_of_ble_eq_true rfl) dX3_tryAll_14 (fun m2 => ?_)
  refine g_aload_n C dX3_tryAll_17 0 rfl rfl ?_
  refine g_iconst C (0 : Int32) dX3_tryAll_18 rfl ?_
  refine g_puti C 0 Fx3 h0 (by decide) rfl rfl rfl rfl q_262 dX3_tryAll_19 (fun m3 => ?_)
  refine g_aload_n C dX3_tryAll_22 0 rfl rfl ?_
  refine g_iconst C (-1 : Int32) dX3_tryAll_23 rfl ?_
  refine g_puti C 1 Fx3 h0 (by decide) rfl rfl rfl rfl q_264 dX3_tryAll_24 (fun m4 => ?_)
  refine g_aload_n C dX3_tryAll_27 0 rfl rfl ?_
  refine g_iconst C (-1 : Int32) dX3_tryAll_28 rfl ?_
  refine g_puti C 2 Fx3 h0 (by decide) rfl rfl rfl rfl q_266 dX3_tryAll_29 (fun m5 => ?_)
  refine g_aload_n C dX3_tryAll_32 0 rfl rfl ?_
  refine g_iconst C (0 : Int32) dX3_tryAll_33 rfl ?_
  refine g_puti C 3 Fx3 h0 (by decide) rfl rfl rfl rfl q_268 dX3_tryAll_34 (fun m6 => ?_)
  refine g_aload_n C dX3_tryAll_37 0 rfl rfl ?_
  refine g_aload_n C dX3_tryAll_38 1 rfl rfl ?_
  refine g_iconst C (0 : Int32) dX3_tryAll_39 rfl ?_
  refine g_iconst C (0 : Int32) dX3_tryAll_40 rfl ?_
  refine g_callVv C cv_X3_tryFrom (ct_X3_tryFrom RF a0 a1 (0 : Int32) (0 : Int32) h0 h1 m6) q_871 h0 (by decide) rfl rfl (Nat.le_of_ble_eq_true rfl) dX3_tryAll_41 (fun r7 m8 => ?_)
  exact g_vret C Rr dX3_tryAll_44
theorem ct_X3_tryAll {Ω : OT} (a0 : Nat) (a1 : Nat) (x2 : Int32) (a3 n3 : Nat) (h0 : tg a0 = 3) (h1 : tg a1 = 7) (h3 : tg a3 = 100 + n3) (m0 : Mem) : Ct Ω yX3_tryAll cX3_tryAll 4 none 41 [.ref (oF Ω a0), .ref (oF Ω a1), .int x2, .ref (oF Ω a3)] m0 (f_X3_tryAll a0 a1 x2 a3 n3 m0) := by
  refine Ct_of (by decide) (Nat.le_of_ble_eq_true rfl) ?_
  intro K hK C Rr
  subst hK
  exact s_X3_tryAll C Rr  a0 a1 x2 a3 n3 h0 h1 h3 m0
def X4_isMissing_J12   (xs0 : Int32) (m0 : Mem) : Res :=
  gd (isb xs0) (some (xs0, m0))
def f_X4_isMissing  (a0 : Nat) (m0 : Mem) : Res :=
  (if (m0 a0 0) = 0 then
  X4_isMissing_J12 (1 : Int32) m0
  else
  X4_isMissing_J12 (0 : Int32) m0)
set_option maxHeartbeats 2000000 in
theorem s_X4_isMissing_J12 {K : KT}  (C : Cx K cX4_isMissing RX4 1 1) (Rr : Rx K (some .boolean))    (xs0 : Int32)  (m0 : Mem) : G K 12 [] [.int xs0] m0 (X4_isMissing_J12 xs0 m0) := by
  unfold X4_isMissing_J12
  exact g_zret C Rr dX4_isMissing_12
set_option maxHeartbeats 2000000 in
theorem s_X4_isMissing {K : KT}  (C : Cx K cX4_isMissing RX4 1 1) (Rr : Rx K (some .boolean))  (a0 : Nat) (h0 : tg a0 = 4) (m0 : Mem) : G K 0 [(0, .ref (kf K a0))] [] m0 (f_X4_isMissing a0 m0) := by
  unfold f_X4_isMissing
  refine g_aload_n C dX4_isMissing_0 0 rfl rfl ?_
  refine g_geti C 0 Fx4 h0 (by decide) rfl rfl q_293 dX4_isMissing_1 ?_
  refine g_if_ne C 11 dX4_isMissing_4 (by decide) (fun _ => ?_) (fun _ => ?_)
  · refine g_iconst C (0 : Int32) dX4_isMissing_11 rfl ?_
    refine g_sub [] rfl ?_
    exact s_X4_isMissing_J12 C Rr (0 : Int32) m0
  · refine g_iconst C (1 : Int32) dX4_isMissing_7 rfl ?_
    refine g_goto C 12 dX4_isMissing_8 (by decide) ?_
    refine g_sub [] rfl ?_
    exact s_X4_isMissing_J12 C Rr (1 : Int32) m0
theorem ct_X4_isMissing {Ω : OT} (a0 : Nat) (h0 : tg a0 = 4) (m0 : Mem) : Ct Ω yX4_isMissing cX4_isMissing 1 (some .boolean) 1 [.ref (oF Ω a0)] m0 (f_X4_isMissing a0 m0) := by
  refine Ct_of (by decide) (Nat.le_of_ble_eq_true rfl) ?_
  intro K hK C Rr
  subst hK
  exact s_X4_isMissing C Rr  a0 h0 m0
def J7_fill_53178_L5B  (k5 : Nat → Nat → Int32 → Int32 → Int32 → Mem → Res) (a0 n0 : Nat) (x1 : Int32) (x2 : Int32) (x3 : Int32) (m0 : Mem) : Res :=
  (if x3 ≤ x2 then
  some (0, m0)
  else
  gd (inb x2 n0) (bnd (mset m0 a0 x2.toNatClampNeg x1) (fun m1 =>
  bnd (x2 + (1 : Int32)) (fun y2 =>
  k5 a0 n0 x1 y2 x3 m1))))
def J7_fill_53178_L5   : Nat → Nat → Nat → Int32 → Int32 → Int32 → Mem → Res
  | 0 => fun _ _ _ _ _ _ => none
  | n + 1 => J7_fill_53178_L5B (J7_fill_53178_L5 n)
def f_J7_fill_53178  (a0 n0 : Nat) (x1 : Int32) (m0 : Mem) : Res :=
  bnd (Int32.ofNat n0) (fun y1 =>
  J7_fill_53178_L5 FU a0 n0 x1 (0 : Int32) y1 m0)
set_option maxHeartbeats 2000000 in
theorem s_J7_fill_53178_L5B {K : KT}  (C : Cx K cJ7_fill_53178 RJ7 4 1) (Rr : Rx K none)  {k5 : Nat → Nat → Int32 → Int32 → Int32 → Mem → Res} (hk5 : ∀ (a0 n0 : Nat) (x1 : Int32) (x2 : Int32) (x3 : Int32) (h0 : tg a0 = 100 + n0) (m0 : Mem), G K 5 [(0, .ref (kf K a0)), (1, .int x1), (2, .int x2), (3, .int x3)] [] m0 (k5 a0 n0 x1 x2 x3 m0)) (a0 n0 : Nat) (x1 : Int32) (x2 : Int32) (x3 : Int32) (h0 : tg a0 = 100 + n0) (m0 : Mem) : G K 5 [(0, .ref (kf K a0)), (1, .int x1), (2, .int x2), (3, .int x3)] [] m0 (J7_fill_53178_L5B k5 a0 n0 x1 x2 x3 m0) := by
  unfold J7_fill_53178_L5B
  refine g_iload_n C dJ7_fill_53178_5 2 rfl rfl ?_
  refine g_iload_n C dJ7_fill_53178_6 3 rfl rfl ?_
  refine g_icmp_ge C 20 dJ7_fill_53178_7 (by decide) (fun _ => ?_) (fun _ => ?_)
  · exact g_vret C Rr dJ7_fill_53178_20
  · refine g_aload_n C dJ7_fill_53178_10 0 rfl rfl ?_
    refine g_iload_n C dJ7_fill_53178_11 2 rfl rfl ?_
    refine g_iload_n C dJ7_fill_53178_12 1 rfl rfl ?_
    refine g_iast (n := n0) C h0 dJ7_fill_53178_13 (fun m1 => ?_)
    refine g_iinc (k := 2) C dJ7_fill_53178_14 rfl (w := (1 : Int32)) rfl (by decide) (fun v_ => [(2, .int v_), (0, .ref (kf K a0)), (1, .int x1), (3, .int x3)]) (fun _ => rfl) (fun y2 => ?_)
    refine g_goto C 5 dJ7_fill_53178_17 (by decide) ?_
    refine g_sub [1, 2, 0, 3] rfl ?_
    exact hk5 a0 n0 x1 y2 x3 h0 m1
theorem s_J7_fill_53178_L5 {K : KT}  (C : Cx K cJ7_fill_53178 RJ7 4 1) (Rr : Rx K none)    : ∀ (n : Nat) (a0 n0 : Nat) (x1 : Int32) (x2 : Int32) (x3 : Int32) (h0 : tg a0 = 100 + n0) (m0 : Mem), G K 5 [(0, .ref (kf K a0)), (1, .int x1), (2, .int x2), (3, .int x3)] [] m0 (J7_fill_53178_L5 n a0 n0 x1 x2 x3 m0) := by
  intro n
  induction n with
  | zero => intros; exact g_none
  | succ n ih =>
    intro a0 n0 x1 x2 x3 h0 m0
    exact s_J7_fill_53178_L5B C Rr  ih a0 n0 x1 x2 x3 h0 m0
set_option maxHeartbeats 2000000 in
theorem s_J7_fill_53178 {K : KT}  (C : Cx K cJ7_fill_53178 RJ7 4 1) (Rr : Rx K none)  (a0 n0 : Nat) (x1 : Int32) (h0 : tg a0 = 100 + n0) (m0 : Mem) : G K 0 [(0, .ref (kf K a0)), (1, .int x1)] [] m0 (f_J7_fill_53178 a0 n0 x1 m0) := by
  unfold f_J7_fill_53178
  refine g_iconst C (0 : Int32) dJ7_fill_53178_0 rfl ?_
  refine g_istore_n C dJ7_fill_53178_1 rfl (by decide) rfl ?_
  refine g_aload_n C dJ7_fill_53178_2 1 rfl rfl ?_
  refine g_alen (n := n0) (v := (Int32.ofNat n0)) C h0 rfl dJ7_fill_53178_3 ?_
  refine g_bnd (fun y1 => ?_)
  refine g_istore_n C dJ7_fill_53178_4 rfl (by decide) rfl ?_
  refine g_sub [2, 3, 1, 0] rfl ?_
  exact s_J7_fill_53178_L5 C Rr FU a0 n0 x1 (0 : Int32) y1 h0 m0
theorem ct_J7_fill_53178 {Ω : OT} (a0 n0 : Nat) (x1 : Int32) (h0 : tg a0 = 100 + n0) (m0 : Mem) : Ct Ω yJ7_fill_53178 cJ7_fill_53178 4 none 1 [.ref (oF Ω a0), .int x1] m0 (f_J7_fill_53178 a0 n0 x1 m0) := by
  refine Ct_of (by decide) (Nat.le_of_ble_eq_true rfl) ?_
  intro K hK C Rr
  subst hK
  exact s_J7_fill_53178 C Rr  a0 n0 x1 h0 m0
def f_X4_lay  (a0 : Nat) (x1 : Int32) (x2 : Int32) (m0 : Mem) : Res :=
  bnd (mset m0 a0 0 x1) (fun m1 =>
  bnd (mset m1 a0 1 x2) (fun m2 =>
  cal (f_J7_fill_53178 (a0 + 1) 24 (0 : Int32) m2) (fun r3 m4 =>
  some (0, m4))))
set_option maxHeartbeats 2000000 in
theorem s_X4_lay {K : KT}  (C : Cx K cX4_lay RX4 3 2) (Rr : Rx K none)  (a0 : Nat) (x1 : Int32) (x2 : Int32) (h0 : tg a0 = 4) (m0 : Mem) : G K 0 [(0, .ref (kf K a0)), (1, .int x1), (2, .int x2)] [] m0 (f_X4_lay a0 x1 x2 m0) := by
  unfold f_X4_lay
  refine g_aload_n C dX4_lay_0 0 rfl rfl ?_
  refine g_iload_n C dX4_lay_1 1 rfl rfl ?_
  refine g_puti C 0 Fx4 h0 (by decide) rfl rfl rfl rfl q_293 dX4_lay_2 (fun m1 => ?_)
  refine g_aload_n C dX4_lay_5 0 rfl rfl ?_
  refine g_iload_n C dX4_lay_6 2 rfl rfl ?_
  refine g_puti C 1 Fx4 h0 (by decide) rfl rfl rfl rfl q_295 dX4_lay_7 (fun m2 => ?_)
  refine g_aload_n C dX4_lay_10 0 rfl rfl ?_
  refine g_getr C 2 1 Fx4 h0 (by decide) rfl rfl q_297 dX4_lay_11 ?_
  refine g_iconst C (0 : Int32) dX4_lay_14 rfl ?_
  refine g_callSv C cv_J7_fill_53178 q_41 (ct_J7_fill_53178 (a0 + 1) 24 (0 : Int32) (cl_4_2 h0) m2) q_827 (by decide) rfl rfl (Nat.le_of_ble_eq_true rfl) dX4_lay_15 (fun r3 m4 => ?_)
  exact g_vret C Rr dX4_lay_18
theorem ct_X4_lay {Ω : OT} (a0 : Nat) (x1 : Int32) (x2 : Int32) (h0 : tg a0 = 4) (m0 : Mem) : Ct Ω yX4_lay cX4_lay 3 none 2 [.ref (oF Ω a0), .int x1, .int x2] m0 (f_X4_lay a0 x1 x2 m0) := by
  refine Ct_of (by decide) (Nat.le_of_ble_eq_true rfl) ?_
  intro K hK C Rr
  subst hK
  exact s_X4_lay C Rr  a0 x1 x2 h0 m0
def X4_write_J47    (m0 : Mem) : Res :=
  some (0, m0)
def f_X4_write  (a0 : Nat) (x1 : Int32) (x2 : Int32) (m0 : Mem) : Res :=
  (if (m0 a0 0) = (8 : Int32) then
  gd (inb x1 24) (bnd (mset m0 (a0 + 1) x1.toNatClampNeg x2.toInt8.toInt32) (fun m3 =>
  X4_write_J47 m3))
  else
  (if (m0 a0 0) = (16 : Int32) then
  gd (inb x1 24) (bnd (mset m0 (a0 + 1) x1.toNatClampNeg x2.toInt16.toInt32) (fun m2 =>
  X4_write_J47 m2))
  else
  gd (inb x1 24) (bnd (mset m0 (a0 + 1) x1.toNatClampNeg x2) (fun m1 =>
  X4_write_J47 m1))))
set_option maxHeartbeats 2000000 in
theorem s_X4_write_J47 {K : KT}  (C : Cx K cX4_write RX4 3 1) (Rr : Rx K none)      (m0 : Mem) : G K 47 [] [] m0 (X4_write_J47 m0) := by
  unfold X4_write_J47
  exact g_vret C Rr dX4_write_47
set_option maxHeartbeats 2000000 in
theorem s_X4_write {K : KT}  (C : Cx K cX4_write RX4 3 1) (Rr : Rx K none)  (a0 : Nat) (x1 : Int32) (x2 : Int32) (h0 : tg a0 = 4) (m0 : Mem) : G K 0 [(0, .ref (kf K a0)), (1, .int x1), (2, .int x2)] [] m0 (f_X4_write a0 x1 x2 m0) := by
  unfold f_X4_write
  refine g_aload_n C dX4_write_0 0 rfl rfl ?_
  refine g_geti C 0 Fx4 h0 (by decide) rfl rfl q_293 dX4_write_1 ?_
  refine g_bipush C (8 : Int32) dX4_write_4 rfl ?_
  refine g_icmp_ne C 20 dX4_write_6 (by decide) (fun _ => ?_) (fun _ => ?_)
  · refine g_aload_n C dX4_write_20 0 rfl rfl ?_
    refine g_geti C 0 Fx4 h0 (by decide) rfl rfl q_293 dX4_write_21 ?_
    refine g_bipush C (16 : Int32) dX4_write_24 rfl ?_
    refine g_icmp_ne C 40 dX4_write_26 (by decide) (fun _ => ?_) (fun _ => ?_)
    · refine g_aload_n C dX4_write_40 0 rfl rfl ?_
      refine g_getr C 2 1 Fx4 h0 (by decide) rfl rfl q_297 dX4_write_41 ?_
      refine g_iload_n C dX4_write_44 1 rfl rfl ?_
      refine g_iload_n C dX4_write_45 2 rfl rfl ?_
      refine g_iast (n := 24) C (cl_4_2 h0) dX4_write_46 (fun m1 => ?_)
      refine g_sub [] rfl ?_
      exact s_X4_write_J47 C Rr m1
    · refine g_aload_n C dX4_write_29 0 rfl rfl ?_
      refine g_getr C 2 1 Fx4 h0 (by decide) rfl rfl q_297 dX4_write_30 ?_
      refine g_iload_n C dX4_write_33 1 rfl rfl ?_
      refine g_iload_n C dX4_write_34 2 rfl rfl ?_
      refine g_i2s C dX4_write_35 ?_
      refine g_iast (n := 24) C (cl_4_2 h0) dX4_write_36 (fun m2 => ?_)
      refine g_goto C 47 dX4_write_37 (by decide) ?_
      refine g_sub [] rfl ?_
      exact s_X4_write_J47 C Rr m2
  · refine g_aload_n C dX4_write_9 0 rfl rfl ?_
    refine g_getr C 2 1 Fx4 h0 (by decide) rfl rfl q_297 dX4_write_10 ?_
    refine g_iload_n C dX4_write_13 1 rfl rfl ?_
    refine g_iload_n C dX4_write_14 2 rfl rfl ?_
    refine g_i2b C dX4_write_15 ?_
    refine g_iast (n := 24) C (cl_4_2 h0) dX4_write_16 (fun m3 => ?_)
    refine g_goto C 47 dX4_write_17 (by decide) ?_
    refine g_sub [] rfl ?_
    exact s_X4_write_J47 C Rr m3
theorem ct_X4_write {Ω : OT} (a0 : Nat) (x1 : Int32) (x2 : Int32) (h0 : tg a0 = 4) (m0 : Mem) : Ct Ω yX4_write cX4_write 3 none 1 [.ref (oF Ω a0), .int x1, .int x2] m0 (f_X4_write a0 x1 x2 m0) := by
  refine Ct_of (by decide) (Nat.le_of_ble_eq_true rfl) ?_
  intro K hK C Rr
  subst hK
  exact s_X4_write C Rr  a0 x1 x2 h0 m0
def X4_holds_J31   (xs0 : Int32) (m0 : Mem) : Res :=
  gd (isb xs0) (some (xs0, m0))
def X4_holds_J30    (m0 : Mem) : Res :=
  X4_holds_J31 (0 : Int32) m0
def f_X4_holds  (a0 : Nat) (x1 : Int32) (x2 : Int32) (m0 : Mem) : Res :=
  (if x1 < 0 then
  X4_holds_J30 m0
  else
  (if x2 < 0 then
  X4_holds_J30 m0
  else
  (if (m0 a0 1) < x2 then
  X4_holds_J30 m0
  else
  (if ((m0 a0 1) - x2) < x1 then
  X4_holds_J30 m0
  else
  X4_holds_J31 (1 : Int32) m0))))
set_option maxHeartbeats 2000000 in
theorem s_X4_holds_J31 {K : KT}  (C : Cx K cX4_holds RX4 3 1) (Rr : Rx K (some .boolean))    (xs0 : Int32)  (m0 : Mem) : G K 31 [] [.int xs0] m0 (X4_holds_J31 xs0 m0) := by
  unfold X4_holds_J31
  exact g_zret C Rr dX4_holds_31
set_option maxHeartbeats 2000000 in
theorem s_X4_holds_J30 {K : KT}  (C : Cx K cX4_holds RX4 3 1) (Rr : Rx K (some .boolean))      (m0 : Mem) : G K 30 [] [] m0 (X4_holds_J30 m0) := by
  unfold X4_holds_J30
  refine g_iconst C (0 : Int32) dX4_holds_30 rfl ?_
  refine g_sub [] rfl ?_
  exact s_X4_holds_J31 C Rr (0 : Int32) m0
set_option maxHeartbeats 2000000 in
theorem s_X4_holds {K : KT}  (C : Cx K cX4_holds RX4 3 1) (Rr : Rx K (some .boolean))  (a0 : Nat) (x1 : Int32) (x2 : Int32) (h0 : tg a0 = 4) (m0 : Mem) : G K 0 [(0, .ref (kf K a0)), (1, .int x1), (2, .int x2)] [] m0 (f_X4_holds a0 x1 x2 m0) := by
  unfold f_X4_holds
  refine g_iload_n C dX4_holds_0 1 rfl rfl ?_
  refine g_if_lt C 30 dX4_holds_1 (by decide) (fun _ => ?_) (fun _ => ?_)
  · refine g_sub [] rfl ?_
    exact s_X4_holds_J30 C Rr m0
  · refine g_iload_n C dX4_holds_4 2 rfl rfl ?_
    refine g_if_lt C 30 dX4_holds_5 (by decide) (fun _ => ?_) (fun _ => ?_)
    · refine g_sub [] rfl ?_
      exact s_X4_holds_J30 C Rr m0
    · refine g_iload_n C dX4_holds_8 2 rfl rfl ?_
      refine g_aload_n C dX4_holds_9 0 rfl rfl ?_
      refine g_geti C 1 Fx4 h0 (by decide) rfl rfl q_295 dX4_holds_10 ?_
      refine g_icmp_gt C 30 dX4_holds_13 (by decide) (fun _ => ?_) (fun _ => ?_)
      · refine g_sub [] rfl ?_
        exact s_X4_holds_J30 C Rr m0
      · refine g_iload_n C dX4_holds_16 1 rfl rfl ?_
        refine g_aload_n C dX4_holds_17 0 rfl rfl ?_
        refine g_geti C 1 Fx4 h0 (by decide) rfl rfl q_295 dX4_holds_18 ?_
        refine g_iload_n C dX4_holds_21 2 rfl rfl ?_
        refine g_isub C dX4_holds_22 ?_
        refine g_icmp_gt C 30 dX4_holds_23 (by decide) (fun _ => ?_) (fun _ => ?_)
        · refine g_sub [] rfl ?_
          exact s_X4_holds_J30 C Rr m0
        · refine g_iconst C (1 : Int32) dX4_holds_26 rfl ?_
          refine g_goto C 31 dX4_holds_27 (by decide) ?_
          refine g_sub [] rfl ?_
          exact s_X4_holds_J31 C Rr (1 : Int32) m0
theorem ct_X4_holds {Ω : OT} (a0 : Nat) (x1 : Int32) (x2 : Int32) (h0 : tg a0 = 4) (m0 : Mem) : Ct Ω yX4_holds cX4_holds 3 (some .boolean) 1 [.ref (oF Ω a0), .int x1, .int x2] m0 (f_X4_holds a0 x1 x2 m0) := by
  refine Ct_of (by decide) (Nat.le_of_ble_eq_true rfl) ?_
  intro K hK C Rr
  subst hK
  exact s_X4_holds C Rr  a0 x1 x2 h0 m0
def f_X5_open  (a0 : Nat) (x1 : Int32) (x2 : Int32) (m0 : Mem) : Res :=
  bnd (mset m0 a0 0 x1) (fun m1 =>
  bnd (mset m1 a0 1 x2) (fun m2 =>
  bnd (mset m2 a0 2 (0 : Int32)) (fun m3 =>
  bnd (mset m3 a0 5 (0 : Int32)) (fun m4 =>
  cal (f_J7_fill_53178 (a0 + 1) 6 (0 : Int32) m4) (fun r5 m6 =>
  cal (f_J7_fill_53178 (a0 + 2) 6 (0 : Int32) m6) (fun r7 m8 =>
  some (0, m8)))))))
set_option maxHeartbeats 2000000 in
theorem s_X5_open {K : KT}  (C : Cx K cX5_open RX5 3 2) (Rr : Rx K none)  (a0 : Nat) (x1 : Int32) (x2 : Int32) (h0 : tg a0 = 5) (m0 : Mem) : G K 0 [(0, .ref (kf K a0)), (1, .int x1), (2, .int x2)] [] m0 (f_X5_open a0 x1 x2 m0) := by
  unfold f_X5_open
  refine g_aload_n C dX5_open_0 0 rfl rfl ?_
  refine g_iload_n C dX5_open_1 1 rfl rfl ?_
  refine g_puti C 0 Fx5 h0 (by decide) rfl rfl rfl rfl q_48 dX5_open_2 (fun m1 => ?_)
  refine g_aload_n C dX5_open_5 0 rfl rfl ?_
  refine g_iload_n C dX5_open_6 2 rfl rfl ?_
  refine g_puti C 1 Fx5 h0 (by decide) rfl rfl rfl rfl q_52 dX5_open_7 (fun m2 => ?_)
  refine g_aload_n C dX5_open_10 0 rfl rfl ?_
  refine g_iconst C (0 : Int32) dX5_open_11 rfl ?_
  refine g_puti C 2 Fx5 h0 (by decide) rfl rfl rfl rfl q_55 dX5_open_12 (fun m3 => ?_)
  refine g_aload_n C dX5_open_15 0 rfl rfl ?_
  refine g_iconst C (0 : Int32) dX5_open_16 rfl ?_
  refine g_puti C 5 Fx5 h0 (by decide) rfl rfl rfl rfl q_65 dX5_open_17 (fun m4 => ?_)
  refine g_aload_n C dX5_open_20 0 rfl rfl ?_
  refine g_getr C 3 1 Fx5 h0 (by decide) rfl rfl q_58 dX5_open_21 ?_
  refine g_iconst C (0 : Int32) dX5_open_24 rfl ?_
  refine g_callSv C cv_J7_fill_53178 q_41 (ct_J7_fill_53178 (a0 + 1) 6 (0 : Int32) (cl_5_3 h0) m4) q_361 (by decide) rfl rfl (Nat.le_of_ble_eq_true rfl) dX5_open_25 (fun r5 m6 => ?_)
  refine g_aload_n C dX5_open_28 0 rfl rfl ?_
  refine g_getr C 4 2 Fx5 h0 (by decide) rfl rfl q_61 dX5_open_29 ?_
  refine g_iconst C (0 : Int32) dX5_open_32 rfl ?_
  refine g_callSv C cv_J7_fill_53178 q_41 (ct_J7_fill_53178 (a0 + 2) 6 (0 : Int32) (cl_5_4 h0) m6) q_361 (by decide) rfl rfl (Nat.le_of_ble_eq_true rfl) dX5_open_33 (fun r7 m8 => ?_)
  exact g_vret C Rr dX5_open_36
theorem ct_X5_open {Ω : OT} (a0 : Nat) (x1 : Int32) (x2 : Int32) (h0 : tg a0 = 5) (m0 : Mem) : Ct Ω yX5_open cX5_open 3 none 2 [.ref (oF Ω a0), .int x1, .int x2] m0 (f_X5_open a0 x1 x2 m0) := by
  refine Ct_of (by decide) (Nat.le_of_ble_eq_true rfl) ?_
  intro K hK C Rr
  subst hK
  exact s_X5_open C Rr  a0 x1 x2 h0 m0
def f_X5_copyFrom  (a0 : Nat) (a1 : Nat) (m0 : Mem) : Res :=
  bnd (mset m0 a0 0 (m0 a1 0)) (fun m1 =>
  bnd (mset m1 a0 1 (m1 a1 1)) (fun m2 =>
  bnd (mset m2 a0 2 (m2 a1 2)) (fun m3 =>
  bnd (mset m3 a0 5 (m3 a1 5)) (fun m4 =>
  gd (cpok (0 : Int32) (0 : Int32) (6 : Int32) 6 6) (bnd (mcpy m4 (a1 + 1) (0 : Int32).toNatClampNeg (a0 + 1) (0 : Int32).toNatClampNeg (6 : Int32).toNatClampNeg) (fun m5 =>
  gd (cpok (0 : Int32) (0 : Int32) (6 : Int32) 6 6) (bnd (mcpy m5 (a1 + 2) (0 : Int32).toNatClampNeg (a0 + 2) (0 : Int32).toNatClampNeg (6 : Int32).toNatClampNeg) (fun m6 =>
  some (0, m6)))))))))
set_option maxHeartbeats 2000000 in
theorem s_X5_copyFrom {K : KT}  (C : Cx K cX5_copyFrom RX5 2 1) (Rr : Rx K none)  (a0 : Nat) (a1 : Nat) (h0 : tg a0 = 5) (h1 : tg a1 = 5) (m0 : Mem) : G K 0 [(0, .ref (kf K a0)), (1, .ref (kf K a1))] [] m0 (f_X5_copyFrom a0 a1 m0) := by
  unfold f_X5_copyFrom
  refine g_aload_n C dX5_copyFrom_0 0 rfl rfl ?_
  refine g_aload_n C dX5_copyFrom_1 1 rfl rfl ?_
  refine g_geti C 0 Fx5 h1 (by decide) rfl rfl q_48 dX5_copyFrom_2 ?_
  refine g_puti C 0 Fx5 h0 (by decide) rfl rfl rfl rfl q_48 dX5_copyFrom_5 (fun m1 => ?_)
  refine g_aload_n C dX5_copyFrom_8 0 rfl rfl ?_
  refine g_aload_n C dX5_copyFrom_9 1 rfl rfl ?_
  refine g_geti C 1 Fx5 h1 (by decide) rfl rfl q_52 dX5_copyFrom_10 ?_
  refine g_puti C 1 Fx5 h0 (by decide) rfl rfl rfl rfl q_52 dX5_copyFrom_13 (fun m2 => ?_)
  refine g_aload_n C dX5_copyFrom_16 0 rfl rfl ?_
  refine g_aload_n C dX5_copyFrom_17 1 rfl rfl ?_
  refine g_geti C 2 Fx5 h1 (by decide) rfl rfl q_55 dX5_copyFrom_18 ?_
  refine g_puti C 2 Fx5 h0 (by decide) rfl rfl rfl rfl q_55 dX5_copyFrom_21 (fun m3 => ?_)
  refine g_aload_n C dX5_copyFrom_24 0 rfl rfl ?_
  refine g_aload_n C dX5_copyFrom_25 1 rfl rfl ?_
  refine g_geti C 5 Fx5 h1 (by decide) rfl rfl q_65 dX5_copyFrom_26 ?_
  refine g_puti C 5 Fx5 h0 (by decide) rfl rfl rfl rfl q_65 dX5_copyFrom_29 (fun m4 => ?_)
  refine g_aload_n C dX5_copyFrom_32 1 rfl rfl ?_
  refine g_getr C 3 1 Fx5 h1 (by decide) rfl rfl q_58 dX5_copyFrom_33 ?_
  refine g_iconst C (0 : Int32) dX5_copyFrom_36 rfl ?_
  refine g_aload_n C dX5_copyFrom_37 0 rfl rfl ?_
  refine g_getr C 3 1 Fx5 h0 (by decide) rfl rfl q_58 dX5_copyFrom_38 ?_
  refine g_iconst C (0 : Int32) dX5_copyFrom_41 rfl ?_
  refine g_bipush C (6 : Int32) dX5_copyFrom_42 rfl ?_
  refine g_copy (na := 6) (nb := 6) C q_722 q_617 q_616 q_18 (cl_5_3 h1) (cl_5_3 h0) (by decide) (Nat.le_of_ble_eq_true rfl) dX5_copyFrom_44 (fun m5 => ?_)
  refine g_aload_n C dX5_copyFrom_47 1 rfl rfl ?_
  refine g_getr C 4 2 Fx5 h1 (by decide) rfl rfl q_61 dX5_copyFrom_48 ?_
  refine g_iconst C (0 : Int32) dX5_copyFrom_51 rfl ?_
  refine g_aload_n C dX5_copyFrom_52 0 rfl rfl ?_
  refine g_getr C 4 2 Fx5 h0 (by decide) rfl rfl q_61 dX5_copyFrom_53 ?_
  refine g_iconst C (0 : Int32) dX5_copyFrom_56 rfl ?_
  refine g_bipush C (6 : Int32) dX5_copyFrom_57 rfl ?_
  refine g_copy (na := 6) (nb := 6) C q_722 q_617 q_616 q_18 (cl_5_4 h1) (cl_5_4 h0) (by decide) (Nat.le_of_ble_eq_true rfl) dX5_copyFrom_59 (fun m6 => ?_)
  exact g_vret C Rr dX5_copyFrom_62
theorem ct_X5_copyFrom {Ω : OT} (a0 : Nat) (a1 : Nat) (h0 : tg a0 = 5) (h1 : tg a1 = 5) (m0 : Mem) : Ct Ω yX5_copyFrom cX5_copyFrom 2 none 1 [.ref (oF Ω a0), .ref (oF Ω a1)] m0 (f_X5_copyFrom a0 a1 m0) := by
  refine Ct_of (by decide) (Nat.le_of_ble_eq_true rfl) ?_
  intro K hK C Rr
  subst hK
  exact s_X5_copyFrom C Rr  a0 a1 h0 h1 m0
def X5_change_J68    (m0 : Mem) : Res :=
  some (0, m0)
def f_X5_change  (a0 : Nat) (x1 : Int32) (x2 : Int32) (m0 : Mem) : Res :=
  (if x1 = 0 then
  bnd (mset m0 a0 0 x2) (fun m8 =>
  X5_change_J68 m8)
  else
  (if x1 = (1 : Int32) then
  bnd (mset m0 a0 1 x2) (fun m7 =>
  X5_change_J68 m7)
  else
  cal (f_X8_within x1 (3 : Int32) (8 : Int32) m0) (fun r1 m2 =>
  (if r1 = 0 then
  cal (f_X8_within x1 (9 : Int32) (14 : Int32) m2) (fun r3 m4 =>
  (if r3 = 0 then
  X5_change_J68 m4
  else
  gd (inb (x1 - (9 : Int32)) 6) (bnd (mset m4 (a0 + 2) (x1 - (9 : Int32)).toNatClampNeg x2) (fun m5 =>
  X5_change_J68 m5))))
  else
  gd (inb (x1 - (3 : Int32)) 6) (bnd (mset m2 (a0 + 1) (x1 - (3 : Int32)).toNatClampNeg x2) (fun m6 =>
  X5_change_J68 m6))))))
set_option maxHeartbeats 2000000 in
theorem s_X5_change_J68 {K : KT}  (C : Cx K cX5_change RX5 3 2) (Rr : Rx K none)      (m0 : Mem) : G K 68 [] [] m0 (X5_change_J68 m0) := by
  unfold X5_change_J68
  exact g_vret C Rr dX5_change_68
set_option maxHeartbeats 2000000 in
theorem s_X5_change {K : KT}  (C : Cx K cX5_change RX5 3 2) (Rr : Rx K none)  (a0 : Nat) (x1 : Int32) (x2 : Int32) (h0 : tg a0 = 5) (m0 : Mem) : G K 0 [(0, .ref (kf K a0)), (1, .int x1), (2, .int x2)] [] m0 (f_X5_change a0 x1 x2 m0) := by
  unfold f_X5_change
  refine g_iload_n C dX5_change_0 1 rfl rfl ?_
  refine g_if_ne C 12 dX5_change_1 (by decide) (fun _ => ?_) (fun _ => ?_)
  · refine g_iload_n C dX5_change_12 1 rfl rfl ?_
    refine g_iconst C (1 : Int32) dX5_change_13 rfl ?_
    refine g_icmp_ne C 25 dX5_change_14 (by decide) (fun _ => ?_) (fun _ => ?_)
    · refine g_iload_n C dX5_change_25 1 rfl rfl ?_
      refine g_iconst C (3 : Int32) dX5_change_26 rfl ?_
      refine g_bipush C (8 : Int32) dX5_change_27 rfl ?_
      refine g_callNi C cv_X8_within q_342 (ct_X8_within x1 (3 : Int32) (8 : Int32)  m0) (by decide +kernel) (by decide) rfl rfl (Nat.le_of_ble_eq_true rfl) dX5_change_29 (fun r1 m2 => ?_)
      refine g_if_eq C 47 dX5_change_32 (by decide) (fun _ => ?_) (fun _ => ?_)
      · refine g_iload_n C dX5_change_47 1 rfl rfl ?_
        refine g_bipush C (9 : Int32) dX5_change_48 rfl ?_
        refine g_bipush C (14 : Int32) dX5_change_50 rfl ?_
        refine g_callNi C cv_X8_within q_342 (ct_X8_within x1 (9 : Int32) (14 : Int32)  m2) (by decide +kernel) (by decide) rfl rfl (Nat.le_of_ble_eq_true rfl) dX5_change_52 (fun r3 m4 => ?_)
        refine g_if_eq C 68 dX5_change_55 (by decide) (fun _ => ?_) (fun _ => ?_)
        · refine g_sub [] rfl ?_
          exact s_X5_change_J68 C Rr m4
        · refine g_aload_n C dX5_change_58 0 rfl rfl ?_
          refine g_getr C 4 2 Fx5 h0 (by decide) rfl rfl q_61 dX5_change_59 ?_
          refine g_iload_n C dX5_change_62 1 rfl rfl ?_
          refine g_bipush C (9 : Int32) dX5_change_63 rfl ?_
          refine g_isub C dX5_change_65 ?_
          refine g_iload_n C dX5_change_66 2 rfl rfl ?_
          refine g_iast (n := 6) C (cl_5_4 h0) dX5_change_67 (fun m5 => ?_)
          refine g_sub [] rfl ?_
          exact s_X5_change_J68 C Rr m5
      · refine g_aload_n C dX5_change_35 0 rfl rfl ?_
        refine g_getr C 3 1 Fx5 h0 (by decide) rfl rfl q_58 dX5_change_36 ?_
        refine g_iload_n C dX5_change_39 1 rfl rfl ?_
        refine g_iconst C (3 : Int32) dX5_change_40 rfl ?_
        refine g_isub C dX5_change_41 ?_
        refine g_iload_n C dX5_change_42 2 rfl rfl ?_
        refine g_iast (n := 6) C (cl_5_3 h0) dX5_change_43 (fun m6 => ?_)
        refine g_goto C 68 dX5_change_44 (by decide) ?_
        refine g_sub [] rfl ?_
        exact s_X5_change_J68 C Rr m6
    · refine g_aload_n C dX5_change_17 0 rfl rfl ?_
      refine g_iload_n C dX5_change_18 2 rfl rfl ?_
      refine g_puti C 1 Fx5 h0 (by decide) rfl rfl rfl rfl q_52 dX5_change_19 (fun m7 => ?_)
      refine g_goto C 68 dX5_change_22 (by decide) ?_
      refine g_sub [] rfl ?_
      exact s_X5_change_J68 C Rr m7
  · refine g_aload_n C dX5_change_4 0 rfl rfl ?_
    refine g_iload_n C dX5_change_5 2 rfl rfl ?_
    refine g_puti C 0 Fx5 h0 (by decide) rfl rfl rfl rfl q_48 dX5_change_6 (fun m8 => ?_)
    refine g_goto C 68 dX5_change_9 (by decide) ?_
    refine g_sub [] rfl ?_
    exact s_X5_change_J68 C Rr m8
theorem ct_X5_change {Ω : OT} (a0 : Nat) (x1 : Int32) (x2 : Int32) (h0 : tg a0 = 5) (m0 : Mem) : Ct Ω yX5_change cX5_change 3 none 2 [.ref (oF Ω a0), .int x1, .int x2] m0 (f_X5_change a0 x1 x2 m0) := by
  refine Ct_of (by decide) (Nat.le_of_ble_eq_true rfl) ?_
  intro K hK C Rr
  subst hK
  exact s_X5_change C Rr  a0 x1 x2 h0 m0
def X5_keepOnly_J23  (k2 : Nat → Int32 → Int32 → Mem → Res) (a0 : Nat) (x1 : Int32) (x2 : Int32) (m0 : Mem) : Res :=
  bnd (x2 + (1 : Int32)) (fun y1 =>
  k2 a0 x1 y1 m0)
def X5_keepOnly_L2B  (k2 : Nat → Int32 → Int32 → Mem → Res) (a0 : Nat) (x1 : Int32) (x2 : Int32) (m0 : Mem) : Res :=
  (if (6 : Int32) ≤ x2 then
  some (0, m0)
  else
  (if ((isr x1 x2) &&& (1 : Int32)) = 0 then
  gd (inb x2 6) (bnd (mset m0 (a0 + 1) x2.toNatClampNeg (0 : Int32)) (fun m1 =>
  X5_keepOnly_J23 k2 a0 x1 x2 m1))
  else
  X5_keepOnly_J23 k2 a0 x1 x2 m0))
def X5_keepOnly_L2   : Nat → Nat → Int32 → Int32 → Mem → Res
  | 0 => fun _ _ _ _ => none
  | n + 1 => X5_keepOnly_L2B (X5_keepOnly_L2 n)
def f_X5_keepOnly  (a0 : Nat) (x1 : Int32) (m0 : Mem) : Res :=
  X5_keepOnly_L2 FU a0 x1 (0 : Int32) m0
set_option maxHeartbeats 2000000 in
theorem s_X5_keepOnly_J23 {K : KT}  (C : Cx K cX5_keepOnly RX5 3 1) (Rr : Rx K none)  {k2 : Nat → Int32 → Int32 → Mem → Res} (hk2 : ∀ (a0 : Nat) (x1 : Int32) (x2 : Int32) (h0 : tg a0 = 5) (m0 : Mem), G K 2 [(0, .ref (kf K a0)), (1, .int x1), (2, .int x2)] [] m0 (k2 a0 x1 x2 m0)) (a0 : Nat) (x1 : Int32) (x2 : Int32) (h0 : tg a0 = 5) (m0 : Mem) : G K 23 [(0, .ref (kf K a0)), (1, .int x1), (2, .int x2)] [] m0 (X5_keepOnly_J23 k2 a0 x1 x2 m0) := by
  unfold X5_keepOnly_J23
  refine g_iinc (k := 2) C dX5_keepOnly_23 rfl (w := (1 : Int32)) rfl (by decide) (fun v_ => [(2, .int v_), (0, .ref (kf K a0)), (1, .int x1)]) (fun _ => rfl) (fun y1 => ?_)
  refine g_goto C 2 dX5_keepOnly_26 (by decide) ?_
  refine g_sub [1, 2, 0] rfl ?_
  exact hk2 a0 x1 y1 h0 m0
set_option maxHeartbeats 2000000 in
theorem s_X5_keepOnly_L2B {K : KT}  (C : Cx K cX5_keepOnly RX5 3 1) (Rr : Rx K none)  {k2 : Nat → Int32 → Int32 → Mem → Res} (hk2 : ∀ (a0 : Nat) (x1 : Int32) (x2 : Int32) (h0 : tg a0 = 5) (m0 : Mem), G K 2 [(0, .ref (kf K a0)), (1, .int x1), (2, .int x2)] [] m0 (k2 a0 x1 x2 m0)) (a0 : Nat) (x1 : Int32) (x2 : Int32) (h0 : tg a0 = 5) (m0 : Mem) : G K 2 [(0, .ref (kf K a0)), (1, .int x1), (2, .int x2)] [] m0 (X5_keepOnly_L2B k2 a0 x1 x2 m0) := by
  unfold X5_keepOnly_L2B
  refine g_iload_n C dX5_keepOnly_2 2 rfl rfl ?_
  refine g_bipush C (6 : Int32) dX5_keepOnly_3 rfl ?_
  refine g_icmp_ge C 29 dX5_keepOnly_5 (by decide) (fun _ => ?_) (fun _ => ?_)
  · exact g_vret C Rr dX5_keepOnly_29
  · refine g_iload_n C dX5_keepOnly_8 1 rfl rfl ?_
    refine g_iload_n C dX5_keepOnly_9 2 rfl rfl ?_
    refine g_ishr C dX5_keepOnly_10 ?_
    refine g_iconst C (1 : Int32) dX5_keepOnly_11 rfl ?_
    refine g_iand C dX5_keepOnly_12 ?_
    refine g_if_ne C 23 dX5_keepOnly_13 (by decide) (fun _ => ?_) (fun _ => ?_)
    · refine g_sub [0, 1, 2] rfl ?_
      exact s_X5_keepOnly_J23 C Rr hk2 a0 x1 x2 h0 m0
    · refine g_aload_n C dX5_keepOnly_16 0 rfl rfl ?_
      refine g_getr C 3 1 Fx5 h0 (by decide) rfl rfl q_58 dX5_keepOnly_17 ?_
      refine g_iload_n C dX5_keepOnly_20 2 rfl rfl ?_
      refine g_iconst C (0 : Int32) dX5_keepOnly_21 rfl ?_
      refine g_iast (n := 6) C (cl_5_3 h0) dX5_keepOnly_22 (fun m1 => ?_)
      refine g_sub [0, 1, 2] rfl ?_
      exact s_X5_keepOnly_J23 C Rr hk2 a0 x1 x2 h0 m1
theorem s_X5_keepOnly_L2 {K : KT}  (C : Cx K cX5_keepOnly RX5 3 1) (Rr : Rx K none)    : ∀ (n : Nat) (a0 : Nat) (x1 : Int32) (x2 : Int32) (h0 : tg a0 = 5) (m0 : Mem), G K 2 [(0, .ref (kf K a0)), (1, .int x1), (2, .int x2)] [] m0 (X5_keepOnly_L2 n a0 x1 x2 m0) := by
  intro n
  induction n with
  | zero => intros; exact g_none
  | succ n ih =>
    intro a0 x1 x2 h0 m0
    exact s_X5_keepOnly_L2B C Rr  ih a0 x1 x2 h0 m0
set_option maxHeartbeats 2000000 in
theorem s_X5_keepOnly {K : KT}  (C : Cx K cX5_keepOnly RX5 3 1) (Rr : Rx K none)  (a0 : Nat) (x1 : Int32) (h0 : tg a0 = 5) (m0 : Mem) : G K 0 [(0, .ref (kf K a0)), (1, .int x1)] [] m0 (f_X5_keepOnly a0 x1 m0) := by
  unfold f_X5_keepOnly
  refine g_iconst C (0 : Int32) dX5_keepOnly_0 rfl ?_
  refine g_istore_n C dX5_keepOnly_1 rfl (by decide) rfl ?_
  refine g_sub [1, 2, 0] rfl ?_
  exact s_X5_keepOnly_L2 C Rr FU a0 x1 (0 : Int32) h0 m0
theorem ct_X5_keepOnly {Ω : OT} (a0 : Nat) (x1 : Int32) (h0 : tg a0 = 5) (m0 : Mem) : Ct Ω yX5_keepOnly cX5_keepOnly 3 none 1 [.ref (oF Ω a0), .int x1] m0 (f_X5_keepOnly a0 x1 m0) := by
  refine Ct_of (by decide) (Nat.le_of_ble_eq_true rfl) ?_
  intro K hK C Rr
  subst hK
  exact s_X5_keepOnly C Rr  a0 x1 h0 m0
def X5_join_L10B  (k10 : Nat → Nat → Int32 → Mem → Res) (a0 : Nat) (a1 : Nat) (x2 : Int32) (m0 : Mem) : Res :=
  (if (6 : Int32) ≤ x2 then
  some (0, m0)
  else
  gd (inb x2 6) (
  gd (inb x2 6) (
  gd (inb x2 6) (bnd (mset m0 (a0 + 1) x2.toNatClampNeg (imin (9 : Int32) ((m0 (a0 + 1) x2.toNatClampNeg) + (m0 (a1 + 1) x2.toNatClampNeg)))) (fun m1 =>
  gd (inb x2 6) (
  gd (inb x2 6) (
  gd (inb x2 6) (bnd (mset m1 (a0 + 2) x2.toNatClampNeg (imin (99 : Int32) ((m1 (a0 + 2) x2.toNatClampNeg) + (m1 (a1 + 2) x2.toNatClampNeg)))) (fun m2 =>
  bnd (x2 + (1 : Int32)) (fun y3 =>
  k10 a0 a1 y3 m2))))))))))
def X5_join_L10   : Nat → Nat → Nat → Int32 → Mem → Res
  | 0 => fun _ _ _ _ => none
  | n + 1 => X5_join_L10B (X5_join_L10 n)
def f_X5_join  (a0 : Nat) (a1 : Nat) (m0 : Mem) : Res :=
  cal (f_X5_earn a0 (m0 a1 2) m0) (fun r1 m2 =>
  X5_join_L10 FU a0 a1 (0 : Int32) m2)
set_option maxHeartbeats 2000000 in
theorem s_X5_join_L10B {K : KT}  (C : Cx K cX5_join RX5 3 3) (Rr : Rx K none)  {k10 : Nat → Nat → Int32 → Mem → Res} (hk10 : ∀ (a0 : Nat) (a1 : Nat) (x2 : Int32) (h0 : tg a0 = 5) (h1 : tg a1 = 5) (m0 : Mem), G K 10 [(0, .ref (kf K a0)), (1, .ref (kf K a1)), (2, .int x2)] [] m0 (k10 a0 a1 x2 m0)) (a0 : Nat) (a1 : Nat) (x2 : Int32) (h0 : tg a0 = 5) (h1 : tg a1 = 5) (m0 : Mem) : G K 10 [(0, .ref (kf K a0)), (1, .ref (kf K a1)), (2, .int x2)] [] m0 (X5_join_L10B k10 a0 a1 x2 m0) := by
  unfold X5_join_L10B
  refine g_iload_n C dX5_join_10 2 rfl rfl ?_
  refine g_bipush C (6 : Int32) dX5_join_11 rfl ?_
  refine g_icmp_ge C 70 dX5_join_13 (by decide) (fun _ => ?_) (fun _ => ?_)
  · exact g_vret C Rr dX5_join_70
  · refine g_aload_n C dX5_join_16 0 rfl rfl ?_
    refine g_getr C 3 1 Fx5 h0 (by decide) rfl rfl q_58 dX5_join_17 ?_
    refine g_iload_n C dX5_join_20 2 rfl rfl ?_
    refine g_bipush C (9 : Int32) dX5_join_21 rfl ?_
    refine g_aload_n C dX5_join_23 0 rfl rfl ?_
    refine g_getr C 3 1 Fx5 h0 (by decide) rfl rfl q_58 dX5_join_24 ?_
    refine g_iload_n C dX5_join_27 2 rfl rfl ?_
    refine g_iald (n := 6) C (cl_5_3 h0) dX5_join_28 (fun _ => ?_)
    refine g_aload_n C dX5_join_29 1 rfl rfl ?_
    refine g_getr C 3 1 Fx5 h1 (by decide) rfl rfl q_58 dX5_join_30 ?_
    refine g_iload_n C dX5_join_33 2 rfl rfl ?_
    refine g_iald (n := 6) C (cl_5_3 h1) dX5_join_34 (fun _ => ?_)
    refine g_iadd C dX5_join_35 ?_
    refine g_mmin C q_774 q_446 q_12 q_447 (by decide) (Nat.le_of_ble_eq_true rfl) dX5_join_36 ?_
    refine g_iast (n := 6) C (cl_5_3 h0) dX5_join_39 (fun m1 => ?_)
    refine g_aload_n C dX5_join_40 0 rfl rfl ?_
    refine g_getr C 4 2 Fx5 h0 (by decide) rfl rfl q_61 dX5_join_41 ?_
    refine g_iload_n C dX5_join_44 2 rfl rfl ?_
    refine g_bipush C (99 : Int32) dX5_join_45 rfl ?_
    refine g_aload_n C dX5_join_47 0 rfl rfl ?_
    refine g_getr C 4 2 Fx5 h0 (by decide) rfl rfl q_61 dX5_join_48 ?_
    refine g_iload_n C dX5_join_51 2 rfl rfl ?_
    refine g_iald (n := 6) C (cl_5_4 h0) dX5_join_52 (fun _ => ?_)
    refine g_aload_n C dX5_join_53 1 rfl rfl ?_
    refine g_getr C 4 2 Fx5 h1 (by decide) rfl rfl q_61 dX5_join_54 ?_
    refine g_iload_n C dX5_join_57 2 rfl rfl ?_
    refine g_iald (n := 6) C (cl_5_4 h1) dX5_join_58 (fun _ => ?_)
    refine g_iadd C dX5_join_59 ?_
    refine g_mmin C q_774 q_446 q_12 q_447 (by decide) (Nat.le_of_ble_eq_true rfl) dX5_join_60 ?_
    refine g_iast (n := 6) C (cl_5_4 h0) dX5_join_63 (fun m2 => ?_)
    refine g_iinc (k := 2) C dX5_join_64 rfl (w := (1 : Int32)) rfl (by decide) (fun v_ => [(2, .int v_), (0, .ref (kf K a0)), (1, .ref (kf K a1))]) (fun _ => rfl) (fun y3 => ?_)
    refine g_goto C 10 dX5_join_67 (by decide) ?_
    refine g_sub [1, 2, 0] rfl ?_
    exact hk10 a0 a1 y3 h0 h1 m2
theorem s_X5_join_L10 {K : KT}  (C : Cx K cX5_join RX5 3 3) (Rr : Rx K none)    : ∀ (n : Nat) (a0 : Nat) (a1 : Nat) (x2 : Int32) (h0 : tg a0 = 5) (h1 : tg a1 = 5) (m0 : Mem), G K 10 [(0, .ref (kf K a0)), (1, .ref (kf K a1)), (2, .int x2)] [] m0 (X5_join_L10 n a0 a1 x2 m0) := by
  intro n
  induction n with
  | zero => intros; exact g_none
  | succ n ih =>
    intro a0 a1 x2 h0 h1 m0
    exact s_X5_join_L10B C Rr  ih a0 a1 x2 h0 h1 m0
set_option maxHeartbeats 2000000 in
theorem s_X5_join {K : KT}  (C : Cx K cX5_join RX5 3 3) (Rr : Rx K none)  (a0 : Nat) (a1 : Nat) (h0 : tg a0 = 5) (h1 : tg a1 = 5) (m0 : Mem) : G K 0 [(0, .ref (kf K a0)), (1, .ref (kf K a1))] [] m0 (f_X5_join a0 a1 m0) := by
  unfold f_X5_join
  refine g_aload_n C dX5_join_0 0 rfl rfl ?_
  refine g_aload_n C dX5_join_1 1 rfl rfl ?_
  refine g_geti C 2 Fx5 h1 (by decide) rfl rfl q_55 dX5_join_2 ?_
  refine g_callVv C cv_X5_earn (ct_X5_earn a0 (m0 a1 2) h0 m0) q_773 h0 (by decide) rfl rfl (Nat.le_of_ble_eq_true rfl) dX5_join_5 (fun r1 m2 => ?_)
  refine g_iconst C (0 : Int32) dX5_join_8 rfl ?_
  refine g_istore_n C dX5_join_9 rfl (by decide) rfl ?_
  refine g_sub [1, 2, 0] rfl ?_
  exact s_X5_join_L10 C Rr FU a0 a1 (0 : Int32) h0 h1 m2
theorem ct_X5_join {Ω : OT} (a0 : Nat) (a1 : Nat) (h0 : tg a0 = 5) (h1 : tg a1 = 5) (m0 : Mem) : Ct Ω yX5_join cX5_join 3 none 3 [.ref (oF Ω a0), .ref (oF Ω a1)] m0 (f_X5_join a0 a1 m0) := by
  refine Ct_of (by decide) (Nat.le_of_ble_eq_true rfl) ?_
  intro K hK C Rr
  subst hK
  exact s_X5_join C Rr  a0 a1 h0 h1 m0
def X5_things_L4B  (k4 : Nat → Int32 → Int32 → Mem → Res) (a0 : Nat) (x1 : Int32) (x2 : Int32) (m0 : Mem) : Res :=
  (if (6 : Int32) ≤ x2 then
  some (x1, m0)
  else
  gd (inb x2 6) (
  bnd (x1 + (m0 (a0 + 2) x2.toNatClampNeg)) (fun y1 =>
  bnd (x2 + (1 : Int32)) (fun y2 =>
  k4 a0 y1 y2 m0))))
def X5_things_L4   : Nat → Nat → Int32 → Int32 → Mem → Res
  | 0 => fun _ _ _ _ => none
  | n + 1 => X5_things_L4B (X5_things_L4 n)
def f_X5_things  (a0 : Nat) (m0 : Mem) : Res :=
  X5_things_L4 FU a0 (0 : Int32) (0 : Int32) m0
set_option maxHeartbeats 2000000 in
theorem s_X5_things_L4B {K : KT}  (C : Cx K cX5_things RX5 3 1) (Rr : Rx K (some .int))  {k4 : Nat → Int32 → Int32 → Mem → Res} (hk4 : ∀ (a0 : Nat) (x1 : Int32) (x2 : Int32) (h0 : tg a0 = 5) (m0 : Mem), G K 4 [(0, .ref (kf K a0)), (1, .int x1), (2, .int x2)] [] m0 (k4 a0 x1 x2 m0)) (a0 : Nat) (x1 : Int32) (x2 : Int32) (h0 : tg a0 = 5) (m0 : Mem) : G K 4 [(0, .ref (kf K a0)), (1, .int x1), (2, .int x2)] [] m0 (X5_things_L4B k4 a0 x1 x2 m0) := by
  unfold X5_things_L4B
  refine g_iload_n C dX5_things_4 2 rfl rfl ?_
  refine g_bipush C (6 : Int32) dX5_things_5 rfl ?_
  refine g_icmp_ge C 25 dX5_things_7 (by decide) (fun _ => ?_) (fun _ => ?_)
  · refine g_iload_n C dX5_things_25 1 rfl rfl ?_
    exact g_iret C Rr dX5_things_26
  · refine g_iload_n C dX5_things_10 1 rfl rfl ?_
    refine g_aload_n C dX5_things_11 0 rfl rfl ?_
    refine g_getr C 4 2 Fx5 h0 (by decide) rfl rfl q_61 dX5_things_12 ?_
    refine g_iload_n C dX5_things_15 2 rfl rfl ?_
    refine g_iald (n := 6) C (cl_5_4 h0) dX5_things_16 (fun _ => ?_)
    refine g_iadd C dX5_things_17 ?_
    refine g_bnd (fun y1 => ?_)
    refine g_istore_n C dX5_things_18 rfl (by decide) rfl ?_
    refine g_iinc (k := 2) C dX5_things_19 rfl (w := (1 : Int32)) rfl (by decide) (fun v_ => [(2, .int v_), (1, .int y1), (0, .ref (kf K a0))]) (fun _ => rfl) (fun y2 => ?_)
    refine g_goto C 4 dX5_things_22 (by decide) ?_
    refine g_sub [2, 1, 0] rfl ?_
    exact hk4 a0 y1 y2 h0 m0
theorem s_X5_things_L4 {K : KT}  (C : Cx K cX5_things RX5 3 1) (Rr : Rx K (some .int))    : ∀ (n : Nat) (a0 : Nat) (x1 : Int32) (x2 : Int32) (h0 : tg a0 = 5) (m0 : Mem), G K 4 [(0, .ref (kf K a0)), (1, .int x1), (2, .int x2)] [] m0 (X5_things_L4 n a0 x1 x2 m0) := by
  intro n
  induction n with
  | zero => intros; exact g_none
  | succ n ih =>
    intro a0 x1 x2 h0 m0
    exact s_X5_things_L4B C Rr  ih a0 x1 x2 h0 m0
set_option maxHeartbeats 2000000 in
theorem s_X5_things {K : KT}  (C : Cx K cX5_things RX5 3 1) (Rr : Rx K (some .int))  (a0 : Nat) (h0 : tg a0 = 5) (m0 : Mem) : G K 0 [(0, .ref (kf K a0))] [] m0 (f_X5_things a0 m0) := by
  unfold f_X5_things
  refine g_iconst C (0 : Int32) dX5_things_0 rfl ?_
  refine g_istore_n C dX5_things_1 rfl (by decide) rfl ?_
  refine g_iconst C (0 : Int32) dX5_things_2 rfl ?_
  refine g_istore_n C dX5_things_3 rfl (by decide) rfl ?_
  refine g_sub [2, 1, 0] rfl ?_
  exact s_X5_things_L4 C Rr FU a0 (0 : Int32) (0 : Int32) h0 m0
theorem ct_X5_things {Ω : OT} (a0 : Nat) (h0 : tg a0 = 5) (m0 : Mem) : Ct Ω yX5_things cX5_things 3 (some .int) 1 [.ref (oF Ω a0)] m0 (f_X5_things a0 m0) := by
  refine Ct_of (by decide) (Nat.le_of_ble_eq_true rfl) ?_
  intro K hK C Rr
  subst hK
  exact s_X5_things C Rr  a0 h0 m0
def X5_goodsHere_J25  (k4 : Nat → Int32 → Int32 → Mem → Res) (a0 : Nat) (x1 : Int32) (x2 : Int32) (m0 : Mem) : Res :=
  bnd (x2 + (1 : Int32)) (fun y1 =>
  k4 a0 x1 y1 m0)
def X5_goodsHere_L4B  (k4 : Nat → Int32 → Int32 → Mem → Res) (a0 : Nat) (x1 : Int32) (x2 : Int32) (m0 : Mem) : Res :=
  (if (6 : Int32) ≤ x2 then
  some (x1, m0)
  else
  gd (inb x2 6) (
  (if (m0 (a0 + 2) x2.toNatClampNeg) ≤ 0 then
  X5_goodsHere_J25 k4 a0 x1 x2 m0
  else
  bnd (x1 ||| (isl (1 : Int32) x2)) (fun y1 =>
  X5_goodsHere_J25 k4 a0 y1 x2 m0))))
def X5_goodsHere_L4   : Nat → Nat → Int32 → Int32 → Mem → Res
  | 0 => fun _ _ _ _ => none
  | n + 1 => X5_goodsHere_L4B (X5_goodsHere_L4 n)
def f_X5_goodsHere  (a0 : Nat) (m0 : Mem) : Res :=
  X5_goodsHere_L4 FU a0 (0 : Int32) (0 : Int32) m0
set_option maxHeartbeats 2000000 in
theorem s_X5_goodsHere_J25 {K : KT}  (C : Cx K cX5_goodsHere RX5 3 1) (Rr : Rx K (some .int))  {k4 : Nat → Int32 → Int32 → Mem → Res} (hk4 : ∀ (a0 : Nat) (x1 : Int32) (x2 : Int32) (h0 : tg a0 = 5) (m0 : Mem), G K 4 [(0, .ref (kf K a0)), (1, .int x1), (2, .int x2)] [] m0 (k4 a0 x1 x2 m0)) (a0 : Nat) (x1 : Int32) (x2 : Int32) (h0 : tg a0 = 5) (m0 : Mem) : G K 25 [(0, .ref (kf K a0)), (1, .int x1), (2, .int x2)] [] m0 (X5_goodsHere_J25 k4 a0 x1 x2 m0) := by
  unfold X5_goodsHere_J25
  refine g_iinc (k := 2) C dX5_goodsHere_25 rfl (w := (1 : Int32)) rfl (by decide) (fun v_ => [(2, .int v_), (0, .ref (kf K a0)), (1, .int x1)]) (fun _ => rfl) (fun y1 => ?_)
  refine g_goto C 4 dX5_goodsHere_28 (by decide) ?_
  refine g_sub [1, 2, 0] rfl ?_
  exact hk4 a0 x1 y1 h0 m0
set_option maxHeartbeats 2000000 in
theorem s_X5_goodsHere_L4B {K : KT}  (C : Cx K cX5_goodsHere RX5 3 1) (Rr : Rx K (some .int))  {k4 : Nat → Int32 → Int32 → Mem → Res} (hk4 : ∀ (a0 : Nat) (x1 : Int32) (x2 : Int32) (h0 : tg a0 = 5) (m0 : Mem), G K 4 [(0, .ref (kf K a0)), (1, .int x1), (2, .int x2)] [] m0 (k4 a0 x1 x2 m0)) (a0 : Nat) (x1 : Int32) (x2 : Int32) (h0 : tg a0 = 5) (m0 : Mem) : G K 4 [(0, .ref (kf K a0)), (1, .int x1), (2, .int x2)] [] m0 (X5_goodsHere_L4B k4 a0 x1 x2 m0) := by
  unfold X5_goodsHere_L4B
  refine g_iload_n C dX5_goodsHere_4 2 rfl rfl ?_
  refine g_bipush C (6 : Int32) dX5_goodsHere_5 rfl ?_
  refine g_icmp_ge C 31 dX5_goodsHere_7 (by decide) (fun _ => ?_) (fun _ => ?_)
  · refine g_iload_n C dX5_goodsHere_31 1 rfl rfl ?_
    exact g_iret C Rr dX5_goodsHere_32
  · refine g_aload_n C dX5_goodsHere_10 0 rfl rfl ?_
    refine g_getr C 4 2 Fx5 h0 (by decide) rfl rfl q_61 dX5_goodsHere_11 ?_
    refine g_iload_n C dX5_goodsHere_14 2 rfl rfl ?_
    refine g_iald (n := 6) C (cl_5_4 h0) dX5_goodsHere_15 (fun _ => ?_)
    refine g_if_le C 25 dX5_goodsHere_16 (by decide) (fun _ => ?_) (fun _ => ?_)
    · refine g_sub [0, 1, 2] rfl ?_
      exact s_X5_goodsHere_J25 C Rr hk4 a0 x1 x2 h0 m0
    · refine g_iload_n C dX5_goodsHere_19 1 rfl rfl ?_
      refine g_iconst C (1 : Int32) dX5_goodsHere_20 rfl ?_
      refine g_iload_n C dX5_goodsHere_21 2 rfl rfl ?_
      refine g_ishl C dX5_goodsHere_22 ?_
      refine g_ior C dX5_goodsHere_23 ?_
      refine g_bnd (fun y1 => ?_)
      refine g_istore_n C dX5_goodsHere_24 rfl (by decide) rfl ?_
      refine g_sub [1, 0, 2] rfl ?_
      exact s_X5_goodsHere_J25 C Rr hk4 a0 y1 x2 h0 m0
theorem s_X5_goodsHere_L4 {K : KT}  (C : Cx K cX5_goodsHere RX5 3 1) (Rr : Rx K (some .int))    : ∀ (n : Nat) (a0 : Nat) (x1 : Int32) (x2 : Int32) (h0 : tg a0 = 5) (m0 : Mem), G K 4 [(0, .ref (kf K a0)), (1, .int x1), (2, .int x2)] [] m0 (X5_goodsHere_L4 n a0 x1 x2 m0) := by
  intro n
  induction n with
  | zero => intros; exact g_none
  | succ n ih =>
    intro a0 x1 x2 h0 m0
    exact s_X5_goodsHere_L4B C Rr  ih a0 x1 x2 h0 m0
set_option maxHeartbeats 2000000 in
theorem s_X5_goodsHere {K : KT}  (C : Cx K cX5_goodsHere RX5 3 1) (Rr : Rx K (some .int))  (a0 : Nat) (h0 : tg a0 = 5) (m0 : Mem) : G K 0 [(0, .ref (kf K a0))] [] m0 (f_X5_goodsHere a0 m0) := by
  unfold f_X5_goodsHere
  refine g_iconst C (0 : Int32) dX5_goodsHere_0 rfl ?_
  refine g_istore_n C dX5_goodsHere_1 rfl (by decide) rfl ?_
  refine g_iconst C (0 : Int32) dX5_goodsHere_2 rfl ?_
  refine g_istore_n C dX5_goodsHere_3 rfl (by decide) rfl ?_
  refine g_sub [2, 1, 0] rfl ?_
  exact s_X5_goodsHere_L4 C Rr FU a0 (0 : Int32) (0 : Int32) h0 m0
theorem ct_X5_goodsHere {Ω : OT} (a0 : Nat) (h0 : tg a0 = 5) (m0 : Mem) : Ct Ω yX5_goodsHere cX5_goodsHere 3 (some .int) 1 [.ref (oF Ω a0)] m0 (f_X5_goodsHere a0 m0) := by
  refine Ct_of (by decide) (Nat.le_of_ble_eq_true rfl) ?_
  intro K hK C Rr
  subst hK
  exact s_X5_goodsHere C Rr  a0 h0 m0
def X6_ownerOf_J46    (m0 : Mem) : Res :=
  some ((-1 : Int32), m0)
def X6_ownerOf_L4B  (k4 : Int32 → Int32 → Int32 → Mem → Res) (x1 : Int32) (x2 : Int32) (x3 : Int32) (m0 : Mem) : Res :=
  (if (7 : Int32) ≤ x3 then
  X6_ownerOf_J46 m0
  else
  cal (f_X8_within x2 (0 : Int32) (6 : Int32) m0) (fun r1 m2 =>
  (if r1 = 0 then
  X6_ownerOf_J46 m2
  else
  gd (inb ((x2 * (4 : Int32)) + x1) 28) (
  (if (bodiesF ((x2 * (4 : Int32)) + x1).toNatClampNeg) = 0 then
  gd (inb x2 7) (
  bnd (aboveF x2.toNatClampNeg) (fun y3 =>
  bnd (x3 + (1 : Int32)) (fun y4 =>
  k4 x1 y3 y4 m2)))
  else
  some (x2, m2))))))
def X6_ownerOf_L4   : Nat → Int32 → Int32 → Int32 → Mem → Res
  | 0 => fun _ _ _ _ => none
  | n + 1 => X6_ownerOf_L4B (X6_ownerOf_L4 n)
def f_X6_ownerOf  (x0 : Int32) (x1 : Int32) (m0 : Mem) : Res :=
  X6_ownerOf_L4 FU x1 x0 (0 : Int32) m0
set_option maxHeartbeats 2000000 in
theorem s_X6_ownerOf_J46 {K : KT}  (C : Cx K cX6_ownerOf RX6 4 2) (Rr : Rx K (some .int))      (m0 : Mem) : G K 46 [] [] m0 (X6_ownerOf_J46 m0) := by
  unfold X6_ownerOf_J46
  refine g_iconst C (-1 : Int32) dX6_ownerOf_46 rfl ?_
  exact g_iret C Rr dX6_ownerOf_47
set_option maxHeartbeats 2000000 in
theorem s_X6_ownerOf_L4B {K : KT}  (C : Cx K cX6_ownerOf RX6 4 2) (Rr : Rx K (some .int))  {k4 : Int32 → Int32 → Int32 → Mem → Res} (hk4 : ∀ (x1 : Int32) (x2 : Int32) (x3 : Int32)  (m0 : Mem), G K 4 [(1, .int x1), (2, .int x2), (3, .int x3)] [] m0 (k4 x1 x2 x3 m0)) (x1 : Int32) (x2 : Int32) (x3 : Int32)  (m0 : Mem) : G K 4 [(1, .int x1), (2, .int x2), (3, .int x3)] [] m0 (X6_ownerOf_L4B k4 x1 x2 x3 m0) := by
  unfold X6_ownerOf_L4B
  refine g_iload_n C dX6_ownerOf_4 2 rfl rfl ?_
  refine g_bipush C (7 : Int32) dX6_ownerOf_5 rfl ?_
  refine g_icmp_ge C 46 dX6_ownerOf_7 (by decide) (fun _ => ?_) (fun _ => ?_)
  · refine g_sub [] rfl ?_
    exact s_X6_ownerOf_J46 C Rr m0
  · refine g_iload_n C dX6_ownerOf_10 1 rfl rfl ?_
    refine g_iconst C (0 : Int32) dX6_ownerOf_11 rfl ?_
    refine g_bipush C (6 : Int32) dX6_ownerOf_12 rfl ?_
    refine g_callNi C cv_X8_within q_342 (ct_X8_within x2 (0 : Int32) (6 : Int32)  m0) (by decide +kernel) (by decide) rfl rfl (Nat.le_of_ble_eq_true rfl) dX6_ownerOf_14 (fun r1 m2 => ?_)
    refine g_if_eq C 46 dX6_ownerOf_17 (by decide) (fun _ => ?_) (fun _ => ?_)
    · refine g_sub [] rfl ?_
      exact s_X6_ownerOf_J46 C Rr m2
    · refine g_bodies C q_797 dX6_ownerOf_20 ?_
      refine g_iload_n C dX6_ownerOf_23 1 rfl rfl ?_
      refine g_iconst C (4 : Int32) dX6_ownerOf_24 rfl ?_
      refine g_imul C dX6_ownerOf_25 ?_
      refine g_iload_n C dX6_ownerOf_26 0 rfl rfl ?_
      refine g_iadd C dX6_ownerOf_27 ?_
      refine g_iald1 C dX6_ownerOf_28 (fun _ => ?_)
      refine g_if_eq C 34 dX6_ownerOf_29 (by decide) (fun _ => ?_) (fun _ => ?_)
      · refine g_aboveN C dX6_ownerOf_34 ?_
        refine g_iload_n C dX6_ownerOf_37 1 rfl rfl ?_
        refine g_iald0 C dX6_ownerOf_38 (fun _ => ?_)
        refine g_bnd (fun y3 => ?_)
        refine g_istore_n C dX6_ownerOf_39 rfl (by decide) rfl ?_
        refine g_iinc (k := 2) C dX6_ownerOf_40 rfl (w := (1 : Int32)) rfl (by decide) (fun v_ => [(3, .int v_), (2, .int y3), (1, .int x1)]) (fun _ => rfl) (fun y4 => ?_)
        refine g_goto C 4 dX6_ownerOf_43 (by decide) ?_
        refine g_sub [2, 1, 0] rfl ?_
        exact hk4 x1 y3 y4 m2
      · refine g_iload_n C dX6_ownerOf_32 1 rfl rfl ?_
        exact g_iret C Rr dX6_ownerOf_33
theorem s_X6_ownerOf_L4 {K : KT}  (C : Cx K cX6_ownerOf RX6 4 2) (Rr : Rx K (some .int))    : ∀ (n : Nat) (x1 : Int32) (x2 : Int32) (x3 : Int32)  (m0 : Mem), G K 4 [(1, .int x1), (2, .int x2), (3, .int x3)] [] m0 (X6_ownerOf_L4 n x1 x2 x3 m0) := by
  intro n
  induction n with
  | zero => intros; exact g_none
  | succ n ih =>
    intro x1 x2 x3 m0
    exact s_X6_ownerOf_L4B C Rr  ih x1 x2 x3 m0
set_option maxHeartbeats 2000000 in
theorem s_X6_ownerOf {K : KT}  (C : Cx K cX6_ownerOf RX6 4 2) (Rr : Rx K (some .int))  (x0 : Int32) (x1 : Int32)  (m0 : Mem) : G K 0 [(0, .int x0), (1, .int x1)] [] m0 (f_X6_ownerOf x0 x1 m0) := by
  unfold f_X6_ownerOf
  refine g_iload_n C dX6_ownerOf_0 0 rfl rfl ?_
  refine g_istore_n C dX6_ownerOf_1 rfl (by decide) rfl ?_
  refine g_iconst C (0 : Int32) dX6_ownerOf_2 rfl ?_
  refine g_istore_n C dX6_ownerOf_3 rfl (by decide) rfl ?_
  refine g_sub [3, 1, 0] rfl ?_
  exact s_X6_ownerOf_L4 C Rr FU x1 x0 (0 : Int32) m0
theorem ct_X6_ownerOf {Ω : OT} (x0 : Int32) (x1 : Int32)  (m0 : Mem) : Ct Ω yX6_ownerOf cX6_ownerOf 4 (some .int) 2 [.int x0, .int x1] m0 (f_X6_ownerOf x0 x1 m0) := by
  refine Ct_of (by decide) (Nat.le_of_ble_eq_true rfl) ?_
  intro K hK C Rr
  subst hK
  exact s_X6_ownerOf C Rr  x0 x1 m0
def X6_note_J29    (m0 : Mem) : Res :=
  some (0, m0)
def f_X6_note  (a0 : Nat) (x1 : Int32) (m0 : Mem) : Res :=
  (if (30 : Int32) ≤ (m0 a0 1) then
  X6_note_J29 m0
  else
  gd (inb (m0 a0 1) 30) (bnd (mset m0 (a0 + 1) (m0 a0 1).toNatClampNeg x1) (fun m1 =>
  bnd (mset m1 a0 1 ((m1 a0 1) + (1 : Int32))) (fun m2 =>
  X6_note_J29 m2))))
set_option maxHeartbeats 2000000 in
theorem s_X6_note_J29 {K : KT}  (C : Cx K cX6_note RX6 2 1) (Rr : Rx K none)      (m0 : Mem) : G K 29 [] [] m0 (X6_note_J29 m0) := by
  unfold X6_note_J29
  exact g_vret C Rr dX6_note_29
set_option maxHeartbeats 2000000 in
theorem s_X6_note {K : KT}  (C : Cx K cX6_note RX6 2 1) (Rr : Rx K none)  (a0 : Nat) (x1 : Int32) (h0 : tg a0 = 6) (m0 : Mem) : G K 0 [(0, .ref (kf K a0)), (1, .int x1)] [] m0 (f_X6_note a0 x1 m0) := by
  unfold f_X6_note
  refine g_aload_n C dX6_note_0 0 rfl rfl ?_
  refine g_geti C 1 Fx6 h0 (by decide) rfl rfl q_236 dX6_note_1 ?_
  refine g_bipush C (30 : Int32) dX6_note_4 rfl ?_
  refine g_icmp_ge C 29 dX6_note_6 (by decide) (fun _ => ?_) (fun _ => ?_)
  · refine g_sub [] rfl ?_
    exact s_X6_note_J29 C Rr m0
  · refine g_aload_n C dX6_note_9 0 rfl rfl ?_
    refine g_getr C 0 1 Fx6 h0 (by decide) rfl rfl q_234 dX6_note_10 ?_
    refine g_aload_n C dX6_note_13 0 rfl rfl ?_
    refine g_geti C 1 Fx6 h0 (by decide) rfl rfl q_236 dX6_note_14 ?_
    refine g_iload_n C dX6_note_17 1 rfl rfl ?_
    refine g_iast (n := 30) C (cl_6_0 h0) dX6_note_18 (fun m1 => ?_)
    refine g_aload_n C dX6_note_19 0 rfl rfl ?_
    refine g_dup C dX6_note_20 rfl ?_
    refine g_geti C 1 Fx6 h0 (by decide) rfl rfl q_236 dX6_note_21 ?_
    refine g_iconst C (1 : Int32) dX6_note_24 rfl ?_
    refine g_iadd C dX6_note_25 ?_
    refine g_puti C 1 Fx6 h0 (by decide) rfl rfl rfl rfl q_236 dX6_note_26 (fun m2 => ?_)
    refine g_sub [] rfl ?_
    exact s_X6_note_J29 C Rr m2
theorem ct_X6_note {Ω : OT} (a0 : Nat) (x1 : Int32) (h0 : tg a0 = 6) (m0 : Mem) : Ct Ω yX6_note cX6_note 2 none 1 [.ref (oF Ω a0), .int x1] m0 (f_X6_note a0 x1 m0) := by
  refine Ct_of (by decide) (Nat.le_of_ble_eq_true rfl) ?_
  intro K hK C Rr
  subst hK
  exact s_X6_note C Rr  a0 x1 h0 m0
def f_X6_part  (a0 : Nat) (x1 : Int32) (m0 : Mem) : Res :=
  bnd ((m0 a0 4) - (m0 a0 5)) (fun y1 =>
  (if y1 = 0 then
  gd (isb (1 : Int32)) (bnd (mset m0 a0 2 (1 : Int32)) (fun m2 =>
  some ((0 : Int32), m2)))
  else
  gd (!(y1 == 0)) (
  some (x1 / y1, m0))))
set_option maxHeartbeats 2000000 in
theorem s_X6_part {K : KT}  (C : Cx K cX6_part RX6 3 1) (Rr : Rx K (some .int))  (a0 : Nat) (x1 : Int32) (h0 : tg a0 = 6) (m0 : Mem) : G K 0 [(0, .ref (kf K a0)), (1, .int x1)] [] m0 (f_X6_part a0 x1 m0) := by
  unfold f_X6_part
  refine g_aload_n C dX6_part_0 0 rfl rfl ?_
  refine g_geti C 4 Fx6 h0 (by decide) rfl rfl q_241 dX6_part_1 ?_
  refine g_aload_n C dX6_part_4 0 rfl rfl ?_
  refine g_geti C 5 Fx6 h0 (by decide) rfl rfl q_242 dX6_part_5 ?_
  refine g_isub C dX6_part_8 ?_
  refine g_bnd (fun y1 => ?_)
  refine g_istore_n C dX6_part_9 rfl (by decide) rfl ?_
  refine g_iload_n C dX6_part_10 0 rfl rfl ?_
  refine g_if_ne C 21 dX6_part_11 (by decide) (fun _ => ?_) (fun _ => ?_)
  · refine g_iload_n C dX6_part_21 2 rfl rfl ?_
    refine g_iload_n C dX6_part_22 0 rfl rfl ?_
    refine g_idiv C dX6_part_23 (fun _ => ?_)
    exact g_iret C Rr dX6_part_24
  · refine g_aload_n C dX6_part_14 1 rfl rfl ?_
    refine g_iconst C (1 : Int32) dX6_part_15 rfl ?_
    refine g_putZ (k := 2) C Fx6 h0 (by decide) rfl rfl rfl rfl q_238 dX6_part_16 (fun m2 => ?_)
    refine g_iconst C (0 : Int32) dX6_part_19 rfl ?_
    exact g_iret C Rr dX6_part_20
theorem ct_X6_part {Ω : OT} (a0 : Nat) (x1 : Int32) (h0 : tg a0 = 6) (m0 : Mem) : Ct Ω yX6_part cX6_part 3 (some .int) 1 [.ref (oF Ω a0), .int x1] m0 (f_X6_part a0 x1 m0) := by
  refine Ct_of (by decide) (Nat.le_of_ble_eq_true rfl) ?_
  intro K hK C Rr
  subst hK
  exact s_X6_part C Rr  a0 x1 h0 m0
