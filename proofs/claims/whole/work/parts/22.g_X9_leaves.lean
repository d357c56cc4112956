def X9_leaves_J101  (k59 : Nat → Int32 → Int32 → Int32 → Int32 → Mem → Res) (a0 : Nat) (x1 : Int32) (x2 : Int32) (x5 : Int32) (xs0 : Int32) (m0 : Mem) : Res :=
  bnd (x5 + (1 : Int32)) (fun y1 =>
  k59 a0 x1 x2 xs0 y1 m0)
def X9_leaves_J100  (k59 : Nat → Int32 → Int32 → Int32 → Int32 → Mem → Res) (a0 : Nat) (x1 : Int32) (x2 : Int32) (x5 : Int32) (m0 : Mem) : Res :=
  X9_leaves_J101 k59 a0 x1 x2 x5 (0 : Int32) m0
def X9_leaves_L59B  (k59 : Nat → Int32 → Int32 → Int32 → Int32 → Mem → Res) (a0 : Nat) (x1 : Int32) (x2 : Int32) (x4 : Int32) (x5 : Int32) (m0 : Mem) : Res :=
  (if (6 : Int32) ≤ x5 then
  cal (f_X9_carry (a0 + 3) 516 (a0 + 1) 516 m0) (fun r1 m2 =>
  gd (isb x4) (some (x4, m2)))
  else
  (if x4 = 0 then
  X9_leaves_J100 k59 a0 x1 x2 x5 m0
  else
  cal (f_X9_its a0 x2 ((9 : Int32) + x5) m0) (fun r3 m4 =>
  gd (inb (((24 : Int32) * x1) + x5) 96) (
  (if r3 = (m4 (a0 + 11) (((24 : Int32) * x1) + x5).toNatClampNeg) then
  X9_leaves_J101 k59 a0 x1 x2 x5 (1 : Int32) m4
  else
  X9_leaves_J100 k59 a0 x1 x2 x5 m4)))))
def X9_leaves_L59   : Nat → Nat → Int32 → Int32 → Int32 → Int32 → Mem → Res
  | 0 => fun _ _ _ _ _ _ => none
  | n + 1 => X9_leaves_L59B (X9_leaves_L59 n)
def X9_leaves_J45  (k14 : Nat → Int32 → Int32 → Int32 → Int32 → Mem → Res) (a0 : Nat) (x1 : Int32) (x2 : Int32) (x3 : Int32) (x4 : Int32) (xs0 : Int32) (m0 : Mem) : Res :=
  bnd (x4 + (1 : Int32)) (fun y1 =>
  k14 a0 x1 x2 x3 y1 m0)
def X9_leaves_L14B  (k14 : Nat → Int32 → Int32 → Int32 → Int32 → Mem → Res) (a0 : Nat) (x1 : Int32) (x2 : Int32) (x3 : Int32) (x4 : Int32) (m0 : Mem) : Res :=
  gd (inb (1 : Int32) 516) (
  (if (m0 (a0 + 1) (1 : Int32).toNatClampNeg) ≤ x4 then
  X9_leaves_L59 FU a0 x1 x2 (1 : Int32) (0 : Int32) m0
  else
  (if ((isr x3 x4) &&& (1 : Int32)) = (1 : Int32) then
  cal (f_X9_visits a0 x4 m0) (fun r1 m2 =>
  X9_leaves_J45 k14 a0 x1 x2 x3 x4 r1 m2)
  else
  X9_leaves_J45 k14 a0 x1 x2 x3 x4 (0 : Int32) m0)))
def X9_leaves_L14   : Nat → Nat → Int32 → Int32 → Int32 → Int32 → Mem → Res
  | 0 => fun _ _ _ _ _ _ => none
  | n + 1 => X9_leaves_L14B (X9_leaves_L14 n)
def f_X9_leaves  (a0 : Nat) (x1 : Int32) (x2 : Int32) (x3 : Int32) (m0 : Mem) : Res :=
  cal (f_X9_carry (a0 + 1) 516 (a0 + 3) 516 m0) (fun r1 m2 =>
  X9_leaves_L14 FU a0 x1 x2 x3 (0 : Int32) m2)
set_option maxHeartbeats 2000000 in
theorem s_X9_leaves_J101 {K : KT}  (C : Cx K cX9_leaves RX9 6 6) (Rr : Rx K (some .boolean))  {k59 : Nat → Int32 → Int32 → Int32 → Int32 → Mem → Res} (hk59 : ∀ (a0 : Nat) (x1 : Int32) (x2 : Int32) (x4 : Int32) (x5 : Int32) (h0 : tg a0 = 9) (m0 : Mem), G K 59 [(0, .ref (kf K a0)), (1, .int x1), (2, .int x2), (4, .int x4), (5, .int x5)] [] m0 (k59 a0 x1 x2 x4 x5 m0)) (a0 : Nat) (x1 : Int32) (x2 : Int32) (x5 : Int32) (xs0 : Int32) (h0 : tg a0 = 9) (m0 : Mem) : G K 101 [(0, .ref (kf K a0)), (1, .int x1), (2, .int x2), (5, .int x5)] [.int xs0] m0 (X9_leaves_J101 k59 a0 x1 x2 x5 xs0 m0) := by
  unfold X9_leaves_J101
  refine g_istore C dX9_leaves_101 (by decide) rfl ?_
  refine g_iinc (k := 4) C dX9_leaves_103 rfl (w := (1 : Int32)) rfl (by decide) (fun v_ => [(5, .int v_), (4, .int xs0), (0, .ref (kf K a0)), (1, .int x1), (2, .int x2)]) (fun _ => rfl) (fun y1 => ?_)
  refine g_goto C 59 dX9_leaves_106 (by decide) ?_
  refine g_sub [2, 3, 4, 1, 0] rfl ?_
  exact hk59 a0 x1 x2 xs0 y1 h0 m0
set_option maxHeartbeats 2000000 in
theorem s_X9_leaves_J100 {K : KT}  (C : Cx K cX9_leaves RX9 6 6) (Rr : Rx K (some .boolean))  {k59 : Nat → Int32 → Int32 → Int32 → Int32 → Mem → Res} (hk59 : ∀ (a0 : Nat) (x1 : Int32) (x2 : Int32) (x4 : Int32) (x5 : Int32) (h0 : tg a0 = 9) (m0 : Mem), G K 59 [(0, .ref (kf K a0)), (1, .int x1), (2, .int x2), (4, .int x4), (5, .int x5)] [] m0 (k59 a0 x1 x2 x4 x5 m0)) (a0 : Nat) (x1 : Int32) (x2 : Int32) (x5 : Int32) (h0 : tg a0 = 9) (m0 : Mem) : G K 100 [(0, .ref (kf K a0)), (1, .int x1), (2, .int x2), (5, .int x5)] [] m0 (X9_leaves_J100 k59 a0 x1 x2 x5 m0) := by
  unfold X9_leaves_J100
  refine g_iconst C (0 : Int32) dX9_leaves_100 rfl ?_
  refine g_sub [0, 1, 2, 3] rfl ?_
  exact s_X9_leaves_J101 C Rr hk59 a0 x1 x2 x5 (0 : Int32) h0 m0
set_option maxHeartbeats 2000000 in
theorem s_X9_leaves_L59B {K : KT}  (C : Cx K cX9_leaves RX9 6 6) (Rr : Rx K (some .boolean))  {k59 : Nat → Int32 → Int32 → Int32 → Int32 → Mem → Res} (hk59 : ∀ (a0 : Nat) (x1 : Int32) (x2 : Int32) (x4 : Int32) (x5 : Int32) (h0 : tg a0 = 9) (m0 : Mem), G K 59 [(0, .ref (kf K a0)), (1, .int x1), (2, .int x2), (4, .int x4), (5, .int x5)] [] m0 (k59 a0 x1 x2 x4 x5 m0)) (a0 : Nat) (x1 : Int32) (x2 : Int32) (x4 : Int32) (x5 : Int32) (h0 : tg a0 = 9) (m0 : Mem) : G K 59 [(0, .ref (kf K a0)), (1, .int x1), (2, .int x2), (4, .int x4), (5, .int x5)] [] m0 (X9_leaves_L59B k59 a0 x1 x2 x4 x5 m0) := by
  unfold X9_leaves_L59B
  refine g_iload C dX9_leaves_59 4 rfl ?_
  refine g_bipush C (6 : Int32) dX9_leaves_61 rfl ?_
  refine g_icmp_ge C 109 dX9_leaves_63 (by decide) (fun _ => ?_) (fun _ => ?_)
  · refine g_aload_n C dX9_leaves_109 0 rfl rfl ?_
    refine g_getr C 2 3 Fx9 h0 (by decide) rfl rfl q_921 dX9_leaves_110 ?_
    refine g_aload_n C dX9_leaves_113 0 rfl rfl ?_
    refine g_getr C 0 1 Fx9 h0 (by decide) rfl rfl q_919 dX9_leaves_114 ?_
    refine g_callSv C cv_X9_carry q_1243 (ct_X9_carry (a0 + 3) 516 (a0 + 1) 516 (cl_9_2 h0) (cl_9_0 h0) m0) q_1242 (by decide) rfl rfl (Nat.le_of_ble_eq_true rfl) dX9_leaves_117 (fun r1 m2 => ?_)
    refine g_iload C dX9_leaves_120 3 rfl ?_
    exact g_zret C Rr dX9_leaves_122
  · refine g_iload C dX9_leaves_66 3 rfl ?_
    refine g_if_eq C 100 dX9_leaves_68 (by decide) (fun _ => ?_) (fun _ => ?_)
    · refine g_sub [0, 1, 2, 4] rfl ?_
      exact s_X9_leaves_J100 C Rr hk59 a0 x1 x2 x5 h0 m0
    · refine g_aload_n C dX9_leaves_71 0 rfl rfl ?_
      refine g_iload_n C dX9_leaves_72 2 rfl rfl ?_
      refine g_bipush C (9 : Int32) dX9_leaves_73 rfl ?_
      refine g_iload C dX9_leaves_75 4 rfl ?_
      refine g_iadd C dX9_leaves_77 ?_
      refine g_callVi C cv_X9_its (ct_X9_its a0 x2 ((9 : Int32) + x5) h0 m0) q_1031 h0 (by decide) rfl rfl (Nat.le_of_ble_eq_true rfl) dX9_leaves_78 (fun r3 m4 => ?_)
      refine g_aload_n C dX9_leaves_81 0 rfl rfl ?_
      refine g_getr C 18 11 Fx9 h0 (by decide) rfl rfl q_937 dX9_leaves_82 ?_
      refine g_bipush C (24 : Int32) dX9_leaves_85 rfl ?_
      refine g_iload_n C dX9_leaves_87 1 rfl rfl ?_
      refine g_imul C dX9_leaves_88 ?_
      refine g_iload C dX9_leaves_89 4 rfl ?_
      refine g_iadd C dX9_leaves_91 ?_
      refine g_iald (n := 96) C (cl_9_18 h0) dX9_leaves_92 (fun _ => ?_)
      refine g_icmp_ne C 100 dX9_leaves_93 (by decide) (fun _ => ?_) (fun _ => ?_)
      · refine g_sub [0, 1, 2, 4] rfl ?_
        exact s_X9_leaves_J100 C Rr hk59 a0 x1 x2 x5 h0 m4
      · refine g_iconst C (1 : Int32) dX9_leaves_96 rfl ?_
        refine g_goto C 101 dX9_leaves_97 (by decide) ?_
        refine g_sub [0, 1, 2, 4] rfl ?_
        exact s_X9_leaves_J101 C Rr hk59 a0 x1 x2 x5 (1 : Int32) h0 m4
theorem s_X9_leaves_L59 {K : KT}  (C : Cx K cX9_leaves RX9 6 6) (Rr : Rx K (some .boolean))    : ∀ (n : Nat) (a0 : Nat) (x1 : Int32) (x2 : Int32) (x4 : Int32) (x5 : Int32) (h0 : tg a0 = 9) (m0 : Mem), G K 59 [(0, .ref (kf K a0)), (1, .int x1), (2, .int x2), (4, .int x4), (5, .int x5)] [] m0 (X9_leaves_L59 n a0 x1 x2 x4 x5 m0) := by
  intro n
  induction n with
  | zero => intros; exact g_none
  | succ n ih =>
    intro a0 x1 x2 x4 x5 h0 m0
    exact s_X9_leaves_L59B C Rr  ih a0 x1 x2 x4 x5 h0 m0
set_option maxHeartbeats 2000000 in
theorem s_X9_leaves_J45 {K : KT}  (C : Cx K cX9_leaves RX9 6 6) (Rr : Rx K (some .boolean))  {k14 : Nat → Int32 → Int32 → Int32 → Int32 → Mem → Res} (hk14 : ∀ (a0 : Nat) (x1 : Int32) (x2 : Int32) (x3 : Int32) (x4 : Int32) (h0 : tg a0 = 9) (m0 : Mem), G K 14 [(0, .ref (kf K a0)), (1, .int x1), (2, .int x2), (3, .int x3), (4, .int x4)] [] m0 (k14 a0 x1 x2 x3 x4 m0)) (a0 : Nat) (x1 : Int32) (x2 : Int32) (x3 : Int32) (x4 : Int32) (xs0 : Int32) (h0 : tg a0 = 9) (m0 : Mem) : G K 45 [(0, .ref (kf K a0)), (1, .int x1), (2, .int x2), (3, .int x3), (4, .int x4)] [.int xs0] m0 (X9_leaves_J45 k14 a0 x1 x2 x3 x4 xs0 m0) := by
  unfold X9_leaves_J45
  refine g_istore C dX9_leaves_45 (by decide) rfl ?_
  refine g_iinc (k := 5) C dX9_leaves_47 rfl (w := (1 : Int32)) rfl (by decide) (fun v_ => [(4, .int v_), (5, .int xs0), (0, .ref (kf K a0)), (1, .int x1), (2, .int x2), (3, .int x3)]) (fun _ => rfl) (fun y1 => ?_)
  refine g_goto C 14 dX9_leaves_50 (by decide) ?_
  refine g_sub [2, 3, 4, 5, 0] rfl ?_
  exact hk14 a0 x1 x2 x3 y1 h0 m0
set_option maxHeartbeats 2000000 in
theorem s_X9_leaves_L14B {K : KT}  (C : Cx K cX9_leaves RX9 6 6) (Rr : Rx K (some .boolean))  {k14 : Nat → Int32 → Int32 → Int32 → Int32 → Mem → Res} (hk14 : ∀ (a0 : Nat) (x1 : Int32) (x2 : Int32) (x3 : Int32) (x4 : Int32) (h0 : tg a0 = 9) (m0 : Mem), G K 14 [(0, .ref (kf K a0)), (1, .int x1), (2, .int x2), (3, .int x3), (4, .int x4)] [] m0 (k14 a0 x1 x2 x3 x4 m0)) (a0 : Nat) (x1 : Int32) (x2 : Int32) (x3 : Int32) (x4 : Int32) (h0 : tg a0 = 9) (m0 : Mem) : G K 14 [(0, .ref (kf K a0)), (1, .int x1), (2, .int x2), (3, .int x3), (4, .int x4)] [] m0 (X9_leaves_L14B k14 a0 x1 x2 x3 x4 m0) := by
  unfold X9_leaves_L14B
  refine g_iload C dX9_leaves_14 4 rfl ?_
  refine g_aload_n C dX9_leaves_16 0 rfl rfl ?_
  refine g_getr C 0 1 Fx9 h0 (by decide) rfl rfl q_919 dX9_leaves_17 ?_
  refine g_iconst C (1 : Int32) dX9_leaves_20 rfl ?_
  refine g_iald (n := 516) C (cl_9_0 h0) dX9_leaves_21 (fun _ => ?_)
  refine g_icmp_ge C 53 dX9_leaves_22 (by decide) (fun _ => ?_) (fun _ => ?_)
  · refine g_iconst C (1 : Int32) dX9_leaves_53 rfl ?_
    refine g_istore C dX9_leaves_54 (by decide) rfl ?_
    refine g_iconst C (0 : Int32) dX9_leaves_56 rfl ?_
    refine g_istore C dX9_leaves_57 (by decide) rfl ?_
    refine g_sub [2, 3, 4, 1, 0] rfl ?_
    exact s_X9_leaves_L59 C Rr FU a0 x1 x2 (1 : Int32) (0 : Int32) h0 m0
  · refine g_iload_n C dX9_leaves_25 3 rfl rfl ?_
    refine g_iload C dX9_leaves_26 4 rfl ?_
    refine g_ishr C dX9_leaves_28 ?_
    refine g_iconst C (1 : Int32) dX9_leaves_29 rfl ?_
    refine g_iand C dX9_leaves_30 ?_
    refine g_iconst C (1 : Int32) dX9_leaves_31 rfl ?_
    refine g_icmp_ne C 44 dX9_leaves_32 (by decide) (fun _ => ?_) (fun _ => ?_)
    · refine g_iconst C (0 : Int32) dX9_leaves_44 rfl ?_
      refine g_sub [0, 1, 2, 3, 4] rfl ?_
      exact s_X9_leaves_J45 C Rr hk14 a0 x1 x2 x3 x4 (0 : Int32) h0 m0
    · refine g_aload_n C dX9_leaves_35 0 rfl rfl ?_
      refine g_iload C dX9_leaves_36 4 rfl ?_
      refine g_callVi C cv_X9_visits (ct_X9_visits a0 x4 h0 m0) q_1202 h0 (by decide) rfl rfl (Nat.le_of_ble_eq_true rfl) dX9_leaves_38 (fun r1 m2 => ?_)
      refine g_goto C 45 dX9_leaves_41 (by decide) ?_
      refine g_sub [0, 1, 2, 3, 4] rfl ?_
      exact s_X9_leaves_J45 C Rr hk14 a0 x1 x2 x3 x4 r1 h0 m2
theorem s_X9_leaves_L14 {K : KT}  (C : Cx K cX9_leaves RX9 6 6) (Rr : Rx K (some .boolean))    : ∀ (n : Nat) (a0 : Nat) (x1 : Int32) (x2 : Int32) (x3 : Int32) (x4 : Int32) (h0 : tg a0 = 9) (m0 : Mem), G K 14 [(0, .ref (kf K a0)), (1, .int x1), (2, .int x2), (3, .int x3), (4, .int x4)] [] m0 (X9_leaves_L14 n a0 x1 x2 x3 x4 m0) := by
  intro n
  induction n with
  | zero => intros; exact g_none
  | succ n ih =>
    intro a0 x1 x2 x3 x4 h0 m0
    exact s_X9_leaves_L14B C Rr  ih a0 x1 x2 x3 x4 h0 m0
set_option maxHeartbeats 2000000 in
theorem s_X9_leaves {K : KT}  (C : Cx K cX9_leaves RX9 6 6) (Rr : Rx K (some .boolean))  (a0 : Nat) (x1 : Int32) (x2 : Int32) (x3 : Int32) (h0 : tg a0 = 9) (m0 : Mem) : G K 0 [(0, .ref (kf K a0)), (1, .int x1), (2, .int x2), (3, .int x3)] [] m0 (f_X9_leaves a0 x1 x2 x3 m0) := by
  unfold f_X9_leaves
  refine g_aload_n C dX9_leaves_0 0 rfl rfl ?_
  refine g_getr C 0 1 Fx9 h0 (by decide) rfl rfl q_919 dX9_leaves_1 ?_
  refine g_aload_n C dX9_leaves_4 0 rfl rfl ?_
  refine g_getr C 2 3 Fx9 h0 (by decide) rfl rfl q_921 dX9_leaves_5 ?_
  refine g_callSv C cv_X9_carry q_1243 (ct_X9_carry (a0 + 1) 516 (a0 + 3) 516 (cl_9_0 h0) (cl_9_2 h0) m0) q_1242 (by decide) rfl rfl (Nat.le_of_ble_eq_true rfl) dX9_leaves_8 (fun r1 m2 => ?_)
  refine g_iconst C (0 : Int32) dX9_leaves_11 rfl ?_
  refine g_istore C dX9_leaves_12 (by decide) rfl ?_
  refine g_sub [1, 2, 3, 4, 0] rfl ?_
  exact s_X9_leaves_L14 C Rr FU a0 x1 x2 x3 (0 : Int32) h0 m2
theorem ct_X9_leaves {Ω : OT} (a0 : Nat) (x1 : Int32) (x2 : Int32) (x3 : Int32) (h0 : tg a0 = 9) (m0 : Mem) : Ct Ω yX9_leaves cX9_leaves 6 (some .boolean) 6 [.ref (oF Ω a0), .int x1, .int x2, .int x3] m0 (f_X9_leaves a0 x1 x2 x3 m0) := by
  refine Ct_of (by decide) (Nat.le_of_ble_eq_true rfl) ?_
  intro K hK C Rr
  subst hK
  exact s_X9_leaves C Rr  a0 x1 x2 x3 h0 m0
def X9_came_J202   (xs0 : Int32) (m0 : Mem) : Res :=
  some (xs0, m0)
def X9_came_J171   (x3 : Int32) (x5 : Int32) (x6 : Int32) (x7 : Int32) (x8 : Int32) (m0 : Mem) : Res :=
  (if x3 = 0 then
  X9_came_J202 x5 m0
  else
  (if x3 = (1 : Int32) then
  X9_came_J202 x6 m0
  else
  (if x3 = (2 : Int32) then
  X9_came_J202 x7 m0
  else
  X9_came_J202 x8 m0)))
def X9_came_J165   (a0 : Nat) (m0 : Mem) : Res :=
  cal (f_X9_error a0 (2 : Int32) m0) (fun r1 m2 =>
  some (r1, m2))
def X9_came_J144  (k88 : Nat → Int32 → Int32 → Int32 → Int32 → Int32 → Int32 → Int32 → Int32 → Mem → Res) (a0 : Nat) (x1 : Int32) (x2 : Int32) (x3 : Int32) (x5 : Int32) (x6 : Int32) (x7 : Int32) (x8 : Int32) (x9 : Int32) (m0 : Mem) : Res :=
  bnd (x9 + (1 : Int32)) (fun y1 =>
  k88 a0 x1 x2 x3 x5 x6 x7 x8 y1 m0)
def X9_came_J128  (k88 : Nat → Int32 → Int32 → Int32 → Int32 → Int32 → Int32 → Int32 → Int32 → Mem → Res) (a0 : Nat) (x1 : Int32) (x2 : Int32) (x3 : Int32) (x5 : Int32) (x7 : Int32) (x8 : Int32) (x9 : Int32) (xs0 : Int32) (m0 : Mem) : Res :=
  bnd (x7 &&& x9) (fun y1 =>
  bnd (x8 ||| x9) (fun y2 =>
  X9_came_J144 k88 a0 x1 x2 x3 x5 xs0 y1 y2 x9 m0))
def X9_came_L88B  (k88 : Nat → Int32 → Int32 → Int32 → Int32 → Int32 → Int32 → Int32 → Int32 → Mem → Res) (a0 : Nat) (x1 : Int32) (x2 : Int32) (x3 : Int32) (x5 : Int32) (x6 : Int32) (x7 : Int32) (x8 : Int32) (x9 : Int32) (m0 : Mem) : Res :=
  gd (inb (1 : Int32) 516) (
  (if (isl (1 : Int32) (m0 (a0 + 1) (1 : Int32).toNatClampNeg)) ≤ x9 then
  (if x5 = 0 then
  (if x3 = (1 : Int32) then
  X9_came_J165 a0 m0
  else
  (if x3 = (2 : Int32) then
  X9_came_J165 a0 m0
  else
  X9_came_J171 x3 x5 x6 x7 x8 m0))
  else
  X9_came_J171 x3 x5 x6 x7 x8 m0)
  else
  cal (f_X9_leaves a0 x1 x2 x9 m0) (fun r1 m2 =>
  (if r1 = 0 then
  X9_came_J144 k88 a0 x1 x2 x3 x5 x6 x7 x8 x9 m2
  else
  bnd (x5 + (1 : Int32)) (fun y3 =>
  (if x6 = (-1 : Int32) then
  X9_came_J128 k88 a0 x1 x2 x3 y3 x7 x8 x9 x9 m2
  else
  X9_came_J128 k88 a0 x1 x2 x3 y3 x7 x8 x9 x6 m2))))))
def X9_came_L88   : Nat → Nat → Int32 → Int32 → Int32 → Int32 → Int32 → Int32 → Int32 → Int32 → Mem → Res
  | 0 => fun _ _ _ _ _ _ _ _ _ _ => none
  | n + 1 => X9_came_L88B (X9_came_L88 n)
def X9_came_J50   (a0 : Nat) (x1 : Int32) (x2 : Int32) (x3 : Int32) (xs0 : Int32) (m0 : Mem) : Res :=
  (if xs0 ≤ 0 then
  gd (inb (1 : Int32) 516) (
  bnd ((isl (1 : Int32) (m0 (a0 + 1) (1 : Int32).toNatClampNeg)) - (1 : Int32)) (fun y1 =>
  X9_came_L88 FU a0 x1 x2 x3 (0 : Int32) (-1 : Int32) y1 (0 : Int32) (0 : Int32) m0))
  else
  cal (f_X9_error a0 xs0 m0) (fun r2 m3 =>
  some (r2, m3)))
def X9_came_J48   (a0 : Nat) (x1 : Int32) (x2 : Int32) (x3 : Int32) (x4 : Int32) (m0 : Mem) : Res :=
  X9_came_J50 a0 x1 x2 x3 x4 m0
def X9_came_J26   (a0 : Nat) (x1 : Int32) (x2 : Int32) (x3 : Int32) (xs0 : Int32) (m0 : Mem) : Res :=
  (if xs0 = 0 then
  gd (inb x1 4) (
  (if (6 : Int32) ≤ (m0 (a0 + 10) x1.toNatClampNeg) then
  X9_came_J48 a0 x1 x2 x3 xs0 m0
  else
  X9_came_J50 a0 x1 x2 x3 (2 : Int32) m0))
  else
  X9_came_J48 a0 x1 x2 x3 xs0 m0)
def X9_came_J25   (a0 : Nat) (x1 : Int32) (x2 : Int32) (x3 : Int32) (m0 : Mem) : Res :=
  X9_came_J26 a0 x1 x2 x3 (1 : Int32) m0
def f_X9_came  (a0 : Nat) (x1 : Int32) (x2 : Int32) (x3 : Int32) (m0 : Mem) : Res :=
  cal (f_X9_isShop a0 x2 m0) (fun r1 m2 =>
  (if r1 = 0 then
  X9_came_J25 a0 x1 x2 x3 m2
  else
  cal (f_X9_in x3 (0 : Int32) (3 : Int32) m2) (fun r3 m4 =>
  (if r3 = 0 then
  X9_came_J25 a0 x1 x2 x3 m4
  else
  cal (f_X9_lacks a0 x1 m4) (fun r5 m6 =>
  X9_came_J26 a0 x1 x2 x3 r5 m6)))))
set_option maxHeartbeats 2000000 in
theorem s_X9_came_J202 {K : KT}  (C : Cx K cX9_came RX9 10 7) (Rr : Rx K (some .int))    (xs0 : Int32)  (m0 : Mem) : G K 202 [] [.int xs0] m0 (X9_came_J202 xs0 m0) := by
  unfold X9_came_J202
  exact g_iret C Rr dX9_came_202
set_option maxHeartbeats 2000000 in
theorem s_X9_came_J171 {K : KT}  (C : Cx K cX9_came RX9 10 7) (Rr : Rx K (some .int))    (x3 : Int32) (x5 : Int32) (x6 : Int32) (x7 : Int32) (x8 : Int32)  (m0 : Mem) : G K 171 [(3, .int x3), (5, .int x5), (6, .int x6), (7, .int x7), (8, .int x8)] [] m0 (X9_came_J171 x3 x5 x6 x7 x8 m0) := by
  unfold X9_came_J171
  refine g_iload_n C dX9_came_171 0 rfl rfl ?_
  refine g_if_ne C 180 dX9_came_172 (by decide) (fun _ => ?_) (fun _ => ?_)
  · refine g_iload_n C dX9_came_180 0 rfl rfl ?_
    refine g_iconst C (1 : Int32) dX9_came_181 rfl ?_
    refine g_icmp_ne C 190 dX9_came_182 (by decide) (fun _ => ?_) (fun _ => ?_)
    · refine g_iload_n C dX9_came_190 0 rfl rfl ?_
      refine g_iconst C (2 : Int32) dX9_came_191 rfl ?_
      refine g_icmp_ne C 200 dX9_came_192 (by decide) (fun _ => ?_) (fun _ => ?_)
      · refine g_iload C dX9_came_200 4 rfl ?_
        refine g_sub [] rfl ?_
        exact s_X9_came_J202 C Rr x8 m0
      · refine g_iload C dX9_came_195 3 rfl ?_
        refine g_goto C 202 dX9_came_197 (by decide) ?_
        refine g_sub [] rfl ?_
        exact s_X9_came_J202 C Rr x7 m0
    · refine g_iload C dX9_came_185 2 rfl ?_
      refine g_goto C 202 dX9_came_187 (by decide) ?_
      refine g_sub [] rfl ?_
      exact s_X9_came_J202 C Rr x6 m0
  · refine g_iload C dX9_came_175 1 rfl ?_
    refine g_goto C 202 dX9_came_177 (by decide) ?_
    refine g_sub [] rfl ?_
    exact s_X9_came_J202 C Rr x5 m0
set_option maxHeartbeats 2000000 in
theorem s_X9_came_J165 {K : KT}  (C : Cx K cX9_came RX9 10 7) (Rr : Rx K (some .int))    (a0 : Nat) (h0 : tg a0 = 9) (m0 : Mem) : G K 165 [(0, .ref (kf K a0))] [] m0 (X9_came_J165 a0 m0) := by
  unfold X9_came_J165
  refine g_aload_n C dX9_came_165 0 rfl rfl ?_
  refine g_iconst C (2 : Int32) dX9_came_166 rfl ?_
  refine g_callVi C cv_X9_error (ct_X9_error a0 (2 : Int32) h0 m0) q_990 h0 (by decide) rfl rfl (Nat.le_of_ble_eq_true rfl) dX9_came_167 (fun r1 m2 => ?_)
  exact g_iret C Rr dX9_came_170
set_option maxHeartbeats 2000000 in
theorem s_X9_came_J144 {K : KT}  (C : Cx K cX9_came RX9 10 7) (Rr : Rx K (some .int))  {k88 : Nat → Int32 → Int32 → Int32 → Int32 → Int32 → Int32 → Int32 → Int32 → Mem → Res} (hk88 : ∀ (a0 : Nat) (x1 : Int32) (x2 : Int32) (x3 : Int32) (x5 : Int32) (x6 : Int32) (x7 : Int32) (x8 : Int32) (x9 : Int32) (h0 : tg a0 = 9) (m0 : Mem), G K 88 [(0, .ref (kf K a0)), (1, .int x1), (2, .int x2), (3, .int x3), (5, .int x5), (6, .int x6), (7, .int x7), (8, .int x8), (9, .int x9)] [] m0 (k88 a0 x1 x2 x3 x5 x6 x7 x8 x9 m0)) (a0 : Nat) (x1 : Int32) (x2 : Int32) (x3 : Int32) (x5 : Int32) (x6 : Int32) (x7 : Int32) (x8 : Int32) (x9 : Int32) (h0 : tg a0 = 9) (m0 : Mem) : G K 144 [(0, .ref (kf K a0)), (1, .int x1), (2, .int x2), (3, .int x3), (5, .int x5), (6, .int x6), (7, .int x7), (8, .int x8), (9, .int x9)] [] m0 (X9_came_J144 k88 a0 x1 x2 x3 x5 x6 x7 x8 x9 m0) := by
  unfold X9_came_J144
  refine g_iinc (k := 8) C dX9_came_144 rfl (w := (1 : Int32)) rfl (by decide) (fun v_ => [(9, .int v_), (0, .ref (kf K a0)), (1, .int x1), (2, .int x2), (3, .int x3), (5, .int x5), (6, .int x6), (7, .int x7), (8, .int x8)]) (fun _ => rfl) (fun y1 => ?_)
  refine g_goto C 88 dX9_came_147 (by decide) ?_
  refine g_sub [1, 2, 3, 4, 5, 6, 7, 8, 0] rfl ?_
  exact hk88 a0 x1 x2 x3 x5 x6 x7 x8 y1 h0 m0
set_option maxHeartbeats 2000000 in
theorem s_X9_came_J128 {K : KT}  (C : Cx K cX9_came RX9 10 7) (Rr : Rx K (some .int))  {k88 : Nat → Int32 → Int32 → Int32 → Int32 → Int32 → Int32 → Int32 → Int32 → Mem → Res} (hk88 : ∀ (a0 : Nat) (x1 : Int32) (x2 : Int32) (x3 : Int32) (x5 : Int32) (x6 : Int32) (x7 : Int32) (x8 : Int32) (x9 : Int32) (h0 : tg a0 = 9) (m0 : Mem), G K 88 [(0, .ref (kf K a0)), (1, .int x1), (2, .int x2), (3, .int x3), (5, .int x5), (6, .int x6), (7, .int x7), (8, .int x8), (9, .int x9)] [] m0 (k88 a0 x1 x2 x3 x5 x6 x7 x8 x9 m0)) (a0 : Nat) (x1 : Int32) (x2 : Int32) (x3 : Int32) (x5 : Int32) (x7 : Int32) (x8 : Int32) (x9 : Int32) (xs0 : Int32) (h0 : tg a0 = 9) (m0 : Mem) : G K 128 [(0, .ref (kf K a0)), (1, .int x1), (2, .int x2), (3, .int x3), (5, .int x5), (7, .int x7), (8, .int x8), (9, .int x9)] [.int xs0] m0 (X9_came_J128 k88 a0 x1 x2 x3 x5 x7 x8 x9 xs0 m0) := by
  unfold X9_came_J128
  refine g_istore C dX9_came_128 (by decide) rfl ?_
  refine g_iload C dX9_came_130 6 rfl ?_
  refine g_iload C dX9_came_132 8 rfl ?_
  refine g_iand C dX9_came_134 ?_
  refine g_bnd (fun y1 => ?_)
  refine g_istore C dX9_came_135 (by decide) rfl ?_
  refine g_iload C dX9_came_137 7 rfl ?_
  refine g_iload C dX9_came_139 8 rfl ?_
  refine g_ior C dX9_came_141 ?_
  refine g_bnd (fun y2 => ?_)
  refine g_istore C dX9_came_142 (by decide) rfl ?_
  refine g_sub [3, 4, 5, 6, 7, 2, 1, 0, 8] rfl ?_
  exact s_X9_came_J144 C Rr hk88 a0 x1 x2 x3 x5 xs0 y1 y2 x9 h0 m0
set_option maxHeartbeats 2000000 in
theorem s_X9_came_L88B {K : KT}  (C : Cx K cX9_came RX9 10 7) (Rr : Rx K (some .int))  {k88 : Nat → Int32 → Int32 → Int32 → Int32 → Int32 → Int32 → Int32 → Int32 → Mem → Res} (hk88 : ∀ (a0 : Nat) (x1 : Int32) (x2 : Int32) (x3 : Int32) (x5 : Int32) (x6 : Int32) (x7 : Int32) (x8 : Int32) (x9 : Int32) (h0 : tg a0 = 9) (m0 : Mem), G K 88 [(0, .ref (kf K a0)), (1, .int x1), (2, .int x2), (3, .int x3), (5, .int x5), (6, .int x6), (7, .int x7), (8, .int x8), (9, .int x9)] [] m0 (k88 a0 x1 x2 x3 x5 x6 x7 x8 x9 m0)) (a0 : Nat) (x1 : Int32) (x2 : Int32) (x3 : Int32) (x5 : Int32) (x6 : Int32) (x7 : Int32) (x8 : Int32) (x9 : Int32) (h0 : tg a0 = 9) (m0 : Mem) : G K 88 [(0, .ref (kf K a0)), (1, .int x1), (2, .int x2), (3, .int x3), (5, .int x5), (6, .int x6), (7, .int x7), (8, .int x8), (9, .int x9)] [] m0 (X9_came_L88B k88 a0 x1 x2 x3 x5 x6 x7 x8 x9 m0) := by
  unfold X9_came_L88B
  refine g_iload C dX9_came_88 8 rfl ?_
  refine g_iconst C (1 : Int32) dX9_came_90 rfl ?_
  refine g_aload_n C dX9_came_91 0 rfl rfl ?_
  refine g_getr C 0 1 Fx9 h0 (by decide) rfl rfl q_919 dX9_came_92 ?_
  refine g_iconst C (1 : Int32) dX9_came_95 rfl ?_
  refine g_iald (n := 516) C (cl_9_0 h0) dX9_came_96 (fun _ => ?_)
  refine g_ishl C dX9_came_97 ?_
  refine g_icmp_ge C 150 dX9_came_98 (by decide) (fun _ => ?_) (fun _ => ?_)
  · refine g_iload C dX9_came_150 4 rfl ?_
    refine g_if_ne C 171 dX9_came_152 (by decide) (fun _ => ?_) (fun _ => ?_)
    · refine g_sub [3, 4, 5, 6, 7] rfl ?_
      exact s_X9_came_J171 C Rr x3 x5 x6 x7 x8 m0
    · refine g_iload_n C dX9_came_155 3 rfl rfl ?_
      refine g_iconst C (1 : Int32) dX9_came_156 rfl ?_
      refine g_icmp_eq C 165 dX9_came_157 (by decide) (fun _ => ?_) (fun _ => ?_)
      · refine g_sub [0] rfl ?_
        exact s_X9_came_J165 C Rr a0 h0 m0
      · refine g_iload_n C dX9_came_160 3 rfl rfl ?_
        refine g_iconst C (2 : Int32) dX9_came_161 rfl ?_
        refine g_icmp_ne C 171 dX9_came_162 (by decide) (fun _ => ?_) (fun _ => ?_)
        · refine g_sub [3, 4, 5, 6, 7] rfl ?_
          exact s_X9_came_J171 C Rr x3 x5 x6 x7 x8 m0
        · refine g_sub [0] rfl ?_
          exact s_X9_came_J165 C Rr a0 h0 m0
  · refine g_aload_n C dX9_came_101 0 rfl rfl ?_
    refine g_iload_n C dX9_came_102 1 rfl rfl ?_
    refine g_iload_n C dX9_came_103 2 rfl rfl ?_
    refine g_iload C dX9_came_104 8 rfl ?_
    refine g_callVi C cv_X9_leaves (ct_X9_leaves a0 x1 x2 x9 h0 m0) q_1355 h0 (by decide) rfl rfl (Nat.le_of_ble_eq_true rfl) dX9_came_106 (fun r1 m2 => ?_)
    refine g_if_eq C 144 dX9_came_109 (by decide) (fun _ => ?_) (fun _ => ?_)
    · refine g_sub [0, 1, 2, 3, 4, 5, 6, 7, 8] rfl ?_
      exact s_X9_came_J144 C Rr hk88 a0 x1 x2 x3 x5 x6 x7 x8 x9 h0 m2
    · refine g_iinc (k := 4) C dX9_came_112 rfl (w := (1 : Int32)) rfl (by decide) (fun v_ => [(5, .int v_), (0, .ref (kf K a0)), (1, .int x1), (2, .int x2), (3, .int x3), (6, .int x6), (7, .int x7), (8, .int x8), (9, .int x9)]) (fun _ => rfl) (fun y3 => ?_)
      refine g_iload C dX9_came_115 5 rfl ?_
      refine g_iconst C (-1 : Int32) dX9_came_117 rfl ?_
      refine g_icmp_ne C 126 dX9_came_118 (by decide) (fun _ => ?_) (fun _ => ?_)
      · refine g_iload C dX9_came_126 5 rfl ?_
        refine g_sub [1, 2, 3, 4, 0, 6, 7, 8] rfl ?_
        exact s_X9_came_J128 C Rr hk88 a0 x1 x2 x3 y3 x7 x8 x9 x6 h0 m2
      · refine g_iload C dX9_came_121 8 rfl ?_
        refine g_goto C 128 dX9_came_123 (by decide) ?_
        refine g_sub [1, 2, 3, 4, 0, 6, 7, 8] rfl ?_
        exact s_X9_came_J128 C Rr hk88 a0 x1 x2 x3 y3 x7 x8 x9 x9 h0 m2
theorem s_X9_came_L88 {K : KT}  (C : Cx K cX9_came RX9 10 7) (Rr : Rx K (some .int))    : ∀ (n : Nat) (a0 : Nat) (x1 : Int32) (x2 : Int32) (x3 : Int32) (x5 : Int32) (x6 : Int32) (x7 : Int32) (x8 : Int32) (x9 : Int32) (h0 : tg a0 = 9) (m0 : Mem), G K 88 [(0, .ref (kf K a0)), (1, .int x1), (2, .int x2), (3, .int x3), (5, .int x5), (6, .int x6), (7, .int x7), (8, .int x8), (9, .int x9)] [] m0 (X9_came_L88 n a0 x1 x2 x3 x5 x6 x7 x8 x9 m0) := by
  intro n
  induction n with
  | zero => intros; exact g_none
  | succ n ih =>
    intro a0 x1 x2 x3 x5 x6 x7 x8 x9 h0 m0
    exact s_X9_came_L88B C Rr  ih a0 x1 x2 x3 x5 x6 x7 x8 x9 h0 m0
set_option maxHeartbeats 2000000 in
theorem s_X9_came_J50 {K : KT}  (C : Cx K cX9_came RX9 10 7) (Rr : Rx K (some .int))    (a0 : Nat) (x1 : Int32) (x2 : Int32) (x3 : Int32) (xs0 : Int32) (h0 : tg a0 = 9) (m0 : Mem) : G K 50 [(0, .ref (kf K a0)), (1, .int x1), (2, .int x2), (3, .int x3)] [.int xs0] m0 (X9_came_J50 a0 x1 x2 x3 xs0 m0) := by
  unfold X9_came_J50
  refine g_istore C dX9_came_50 (by decide) rfl ?_
  refine g_iload C dX9_came_52 0 rfl ?_
  refine g_if_le C 64 dX9_came_54 (by decide) (fun _ => ?_) (fun _ => ?_)
  · refine g_iconst C (0 : Int32) dX9_came_64 rfl ?_
    refine g_istore C dX9_came_65 (by decide) rfl ?_
    refine g_iconst C (-1 : Int32) dX9_came_67 rfl ?_
    refine g_istore C dX9_came_68 (by decide) rfl ?_
    refine g_iconst C (1 : Int32) dX9_came_70 rfl ?_
    refine g_aload_n C dX9_came_71 3 rfl rfl ?_
    refine g_getr C 0 1 Fx9 h0 (by decide) rfl rfl q_919 dX9_came_72 ?_
    refine g_iconst C (1 : Int32) dX9_came_75 rfl ?_
    refine g_iald (n := 516) C (cl_9_0 h0) dX9_came_76 (fun _ => ?_)
    refine g_ishl C dX9_came_77 ?_
    refine g_iconst C (1 : Int32) dX9_came_78 rfl ?_
    refine g_isub C dX9_came_79 ?_
    refine g_bnd (fun y1 => ?_)
    refine g_istore C dX9_came_80 (by decide) rfl ?_
    refine g_iconst C (0 : Int32) dX9_came_82 rfl ?_
    refine g_istore C dX9_came_83 (by decide) rfl ?_
    refine g_iconst C (0 : Int32) dX9_came_85 rfl ?_
    refine g_istore C dX9_came_86 (by decide) rfl ?_
    refine g_sub [6, 7, 8, 9, 4, 3, 2, 1, 0] rfl ?_
    exact s_X9_came_L88 C Rr FU a0 x1 x2 x3 (0 : Int32) (-1 : Int32) y1 (0 : Int32) (0 : Int32) h0 m0
  · refine g_aload_n C dX9_came_57 1 rfl rfl ?_
    refine g_iload C dX9_came_58 0 rfl ?_
    refine g_callVi C cv_X9_error (ct_X9_error a0 xs0 h0 m0) q_990 h0 (by decide) rfl rfl (Nat.le_of_ble_eq_true rfl) dX9_came_60 (fun r2 m3 => ?_)
    exact g_iret C Rr dX9_came_63
set_option maxHeartbeats 2000000 in
theorem s_X9_came_J48 {K : KT}  (C : Cx K cX9_came RX9 10 7) (Rr : Rx K (some .int))    (a0 : Nat) (x1 : Int32) (x2 : Int32) (x3 : Int32) (x4 : Int32) (h0 : tg a0 = 9) (m0 : Mem) : G K 48 [(0, .ref (kf K a0)), (1, .int x1), (2, .int x2), (3, .int x3), (4, .int x4)] [] m0 (X9_came_J48 a0 x1 x2 x3 x4 m0) := by
  unfold X9_came_J48
  refine g_iload C dX9_came_48 4 rfl ?_
  refine g_sub [0, 1, 2, 3] rfl ?_
  exact s_X9_came_J50 C Rr a0 x1 x2 x3 x4 h0 m0
set_option maxHeartbeats 2000000 in
theorem s_X9_came_J26 {K : KT}  (C : Cx K cX9_came RX9 10 7) (Rr : Rx K (some .int))    (a0 : Nat) (x1 : Int32) (x2 : Int32) (x3 : Int32) (xs0 : Int32) (h0 : tg a0 = 9) (m0 : Mem) : G K 26 [(0, .ref (kf K a0)), (1, .int x1), (2, .int x2), (3, .int x3)] [.int xs0] m0 (X9_came_J26 a0 x1 x2 x3 xs0 m0) := by
  unfold X9_came_J26
  refine g_istore C dX9_came_26 (by decide) rfl ?_
  refine g_iload C dX9_came_28 0 rfl ?_
  refine g_if_ne C 48 dX9_came_30 (by decide) (fun _ => ?_) (fun _ => ?_)
  · refine g_sub [1, 2, 3, 4, 0] rfl ?_
    exact s_X9_came_J48 C Rr a0 x1 x2 x3 xs0 h0 m0
  · refine g_aload_n C dX9_came_33 1 rfl rfl ?_
    refine g_getr C 17 10 Fx9 h0 (by decide) rfl rfl q_936 dX9_came_34 ?_
    refine g_iload_n C dX9_came_37 2 rfl rfl ?_
    refine g_iald (n := 4) C (cl_9_17 h0) dX9_came_38 (fun _ => ?_)
    refine g_bipush C (6 : Int32) dX9_came_39 rfl ?_
    refine g_icmp_ge C 48 dX9_came_41 (by decide) (fun _ => ?_) (fun _ => ?_)
    · refine g_sub [1, 2, 3, 4, 0] rfl ?_
      exact s_X9_came_J48 C Rr a0 x1 x2 x3 xs0 h0 m0
    · refine g_iconst C (2 : Int32) dX9_came_44 rfl ?_
      refine g_goto C 50 dX9_came_45 (by decide) ?_
      refine g_sub [1, 2, 3, 4] rfl ?_
      exact s_X9_came_J50 C Rr a0 x1 x2 x3 (2 : Int32) h0 m0
set_option maxHeartbeats 2000000 in
theorem s_X9_came_J25 {K : KT}  (C : Cx K cX9_came RX9 10 7) (Rr : Rx K (some .int))    (a0 : Nat) (x1 : Int32) (x2 : Int32) (x3 : Int32) (h0 : tg a0 = 9) (m0 : Mem) : G K 25 [(0, .ref (kf K a0)), (1, .int x1), (2, .int x2), (3, .int x3)] [] m0 (X9_came_J25 a0 x1 x2 x3 m0) := by
  unfold X9_came_J25
  refine g_iconst C (1 : Int32) dX9_came_25 rfl ?_
  refine g_sub [0, 1, 2, 3] rfl ?_
  exact s_X9_came_J26 C Rr a0 x1 x2 x3 (1 : Int32) h0 m0
set_option maxHeartbeats 2000000 in
theorem s_X9_came {K : KT}  (C : Cx K cX9_came RX9 10 7) (Rr : Rx K (some .int))  (a0 : Nat) (x1 : Int32) (x2 : Int32) (x3 : Int32) (h0 : tg a0 = 9) (m0 : Mem) : G K 0 [(0, .ref (kf K a0)), (1, .int x1), (2, .int x2), (3, .int x3)] [] m0 (f_X9_came a0 x1 x2 x3 m0) := by
  unfold f_X9_came
  refine g_aload_n C dX9_came_0 0 rfl rfl ?_
  refine g_iload_n C dX9_came_1 2 rfl rfl ?_
  refine g_callVi C cv_X9_isShop (ct_X9_isShop a0 x2 h0 m0) q_1011 h0 (by decide) rfl rfl (Nat.le_of_ble_eq_true rfl) dX9_came_2 (fun r1 m2 => ?_)
  refine g_if_eq C 25 dX9_came_5 (by decide) (fun _ => ?_) (fun _ => ?_)
  · refine g_sub [0, 1, 2, 3] rfl ?_
    exact s_X9_came_J25 C Rr a0 x1 x2 x3 h0 m2
  · refine g_iload_n C dX9_came_8 3 rfl rfl ?_
    refine g_iconst C (0 : Int32) dX9_came_9 rfl ?_
    refine g_iconst C (3 : Int32) dX9_came_10 rfl ?_
    refine g_callSi C cv_X9_in q_988 (ct_X9_in x3 (0 : Int32) (3 : Int32)  m2) q_987 (by decide) rfl rfl (Nat.le_of_ble_eq_true rfl) dX9_came_11 (fun r3 m4 => ?_)
    refine g_if_eq C 25 dX9_came_14 (by decide) (fun _ => ?_) (fun _ => ?_)
    · refine g_sub [0, 1, 2, 3] rfl ?_
      exact s_X9_came_J25 C Rr a0 x1 x2 x3 h0 m4
    · refine g_aload_n C dX9_came_17 0 rfl rfl ?_
      refine g_iload_n C dX9_came_18 1 rfl rfl ?_
      refine g_callVi C cv_X9_lacks (ct_X9_lacks a0 x1 h0 m4) q_1343 h0 (by decide) rfl rfl (Nat.le_of_ble_eq_true rfl) dX9_came_19 (fun r5 m6 => ?_)
      refine g_goto C 26 dX9_came_22 (by decide) ?_
      refine g_sub [0, 1, 2, 3] rfl ?_
      exact s_X9_came_J26 C Rr a0 x1 x2 x3 r5 h0 m6
theorem ct_X9_came {Ω : OT} (a0 : Nat) (x1 : Int32) (x2 : Int32) (x3 : Int32) (h0 : tg a0 = 9) (m0 : Mem) : Ct Ω yX9_came cX9_came 10 (some .int) 7 [.ref (oF Ω a0), .int x1, .int x2, .int x3] m0 (f_X9_came a0 x1 x2 x3 m0) := by
  refine Ct_of (by decide) (Nat.le_of_ble_eq_true rfl) ?_
  intro K hK C Rr
  subst hK
  exact s_X9_came C Rr  a0 x1 x2 x3 h0 m0
def f_X9_image  (a0 : Nat) (m0 : Mem) : Res :=
  cal (f_X9_carry (a0 + 1) 516 (a0 + 2) 516 m0) (fun r1 m2 =>
  bnd (mset m2 a0 3 ((m2 a0 3) + (1 : Int32))) (fun m3 =>
  some (m3 a0 3, m3)))
set_option maxHeartbeats 2000000 in
theorem s_X9_image {K : KT}  (C : Cx K cX9_image RX9 1 2) (Rr : Rx K (some .int))  (a0 : Nat) (h0 : tg a0 = 9) (m0 : Mem) : G K 0 [(0, .ref (kf K a0))] [] m0 (f_X9_image a0 m0) := by
  unfold f_X9_image
  refine g_aload_n C dX9_image_0 0 rfl rfl ?_
  refine g_getr C 0 1 Fx9 h0 (by decide) rfl rfl q_919 dX9_image_1 ?_
  refine g_aload_n C dX9_image_4 0 rfl rfl ?_
  refine g_getr C 1 2 Fx9 h0 (by decide) rfl rfl q_920 dX9_image_5 ?_
  refine g_callSv C cv_X9_carry q_1243 (ct_X9_carry (a0 + 1) 516 (a0 + 2) 516 (cl_9_0 h0) (cl_9_1 h0) m0) q_1242 (by decide) rfl rfl (Nat.le_of_ble_eq_true rfl) dX9_image_8 (fun r1 m2 => ?_)
  refine g_aload_n C dX9_image_11 0 rfl rfl ?_
  refine g_dup C dX9_image_12 rfl ?_
  refine g_geti C 3 Fx9 h0 (by decide) rfl rfl q_922 dX9_image_13 ?_
  refine g_iconst C (1 : Int32) dX9_image_16 rfl ?_
  refine g_iadd C dX9_image_17 ?_
  refine g_puti C 3 Fx9 h0 (by decide) rfl rfl rfl rfl q_922 dX9_image_18 (fun m3 => ?_)
  refine g_aload_n C dX9_image_21 0 rfl rfl ?_
  refine g_geti C 3 Fx9 h0 (by decide) rfl rfl q_922 dX9_image_22 ?_
  exact g_iret C Rr dX9_image_25
theorem ct_X9_image {Ω : OT} (a0 : Nat) (h0 : tg a0 = 9) (m0 : Mem) : Ct Ω yX9_image cX9_image 1 (some .int) 2 [.ref (oF Ω a0)] m0 (f_X9_image a0 m0) := by
  refine Ct_of (by decide) (Nat.le_of_ble_eq_true rfl) ?_
  intro K hK C Rr
  subst hK
  exact s_X9_image C Rr  a0 h0 m0
def f_X9_restore  (a0 : Nat) (m0 : Mem) : Res :=
  (if (m0 a0 3) = 0 then
  cal (f_X9_error a0 (2 : Int32) m0) (fun r3 m4 =>
  some (r3, m4))
  else
  cal (f_X9_carry (a0 + 2) 516 (a0 + 1) 516 m0) (fun r1 m2 =>
  gd (inb (2 : Int32) 516) (
  some (m2 (a0 + 1) (2 : Int32).toNatClampNeg, m2))))
set_option maxHeartbeats 2000000 in
theorem s_X9_restore {K : KT}  (C : Cx K cX9_restore RX9 1 2) (Rr : Rx K (some .int))  (a0 : Nat) (h0 : tg a0 = 9) (m0 : Mem) : G K 0 [(0, .ref (kf K a0))] [] m0 (f_X9_restore a0 m0) := by
  unfold f_X9_restore
  refine g_aload_n C dX9_restore_0 0 rfl rfl ?_
  refine g_geti C 3 Fx9 h0 (by decide) rfl rfl q_922 dX9_restore_1 ?_
  refine g_if_ne C 13 dX9_restore_4 (by decide) (fun _ => ?_) (fun _ => ?_)
  · refine g_aload_n C dX9_restore_13 0 rfl rfl ?_
    refine g_getr C 1 2 Fx9 h0 (by decide) rfl rfl q_920 dX9_restore_14 ?_
    refine g_aload_n C dX9_restore_17 0 rfl rfl ?_
    refine g_getr C 0 1 Fx9 h0 (by decide) rfl rfl q_919 dX9_restore_18 ?_
    refine g_callSv C cv_X9_carry q_1243 (ct_X9_carry (a0 + 2) 516 (a0 + 1) 516 (cl_9_1 h0) (cl_9_0 h0) m0) q_1242 (by decide) rfl rfl (Nat.le_of_ble_eq_true rfl) dX9_restore_21 (fun r1 m2 => ?_)
    refine g_aload_n C dX9_restore_24 0 rfl rfl ?_
    refine g_getr C 0 1 Fx9 h0 (by decide) rfl rfl q_919 dX9_restore_25 ?_
    refine g_iconst C (2 : Int32) dX9_restore_28 rfl ?_
    refine g_iald (n := 516) C (cl_9_0 h0) dX9_restore_29 (fun _ => ?_)
    exact g_iret C Rr dX9_restore_30
  · refine g_aload_n C dX9_restore_7 0 rfl rfl ?_
    refine g_iconst C (2 : Int32) dX9_restore_8 rfl ?_
    refine g_callVi C cv_X9_error (ct_X9_error a0 (2 : Int32) h0 m0) q_990 h0 (by decide) rfl rfl (Nat.le_of_ble_eq_true rfl) dX9_restore_9 (fun r3 m4 => ?_)
    exact g_iret C Rr dX9_restore_12
theorem ct_X9_restore {Ω : OT} (a0 : Nat) (h0 : tg a0 = 9) (m0 : Mem) : Ct Ω yX9_restore cX9_restore 1 (some .int) 2 [.ref (oF Ω a0)] m0 (f_X9_restore a0 m0) := by
  refine Ct_of (by decide) (Nat.le_of_ble_eq_true rfl) ?_
  intro K hK C Rr
  subst hK
  exact s_X9_restore C Rr  a0 h0 m0
def f_X9_tell  (a0 : Nat) (x1 : Int32) (m0 : Mem) : Res :=
  gd (inb (7 : Int32) 516) (
  (if (m0 (a0 + 1) (7 : Int32).toNatClampNeg) = (24 : Int32) then
  cal (f_X9_error a0 (4 : Int32) m0) (fun r3 m4 =>
  some (r3, m4))
  else
  gd (inb (7 : Int32) 516) (
  gd (inb ((492 : Int32) + (m0 (a0 + 1) (7 : Int32).toNatClampNeg)) 516) (bnd (mset m0 (a0 + 1) ((492 : Int32) + (m0 (a0 + 1) (7 : Int32).toNatClampNeg)).toNatClampNeg x1) (fun m1 =>
  gd (inb (7 : Int32) 516) (
  gd (inb (7 : Int32) 516) (bnd (mset m1 (a0 + 1) (7 : Int32).toNatClampNeg ((m1 (a0 + 1) (7 : Int32).toNatClampNeg) + (1 : Int32))) (fun m2 =>
  gd (inb (7 : Int32) 516) (
  some (m2 (a0 + 1) (7 : Int32).toNatClampNeg, m2))))))))))
set_option maxHeartbeats 2000000 in
theorem s_X9_tell {K : KT}  (C : Cx K cX9_tell RX9 2 2) (Rr : Rx K (some .int))  (a0 : Nat) (x1 : Int32) (h0 : tg a0 = 9) (m0 : Mem) : G K 0 [(0, .ref (kf K a0)), (1, .int x1)] [] m0 (f_X9_tell a0 x1 m0) := by
  unfold f_X9_tell
  refine g_aload_n C dX9_tell_0 0 rfl rfl ?_
  refine g_getr C 0 1 Fx9 h0 (by decide) rfl rfl q_919 dX9_tell_1 ?_
  refine g_bipush C (7 : Int32) dX9_tell_4 rfl ?_
  refine g_iald (n := 516) C (cl_9_0 h0) dX9_tell_6 (fun _ => ?_)
  refine g_bipush C (24 : Int32) dX9_tell_7 rfl ?_
  refine g_icmp_ne C 18 dX9_tell_9 (by decide) (fun _ => ?_) (fun _ => ?_)
  · refine g_aload_n C dX9_tell_18 0 rfl rfl ?_
    refine g_getr C 0 1 Fx9 h0 (by decide) rfl rfl q_919 dX9_tell_19 ?_
    refine g_sipush C (492 : Int32) dX9_tell_22 rfl ?_
    refine g_aload_n C dX9_tell_25 0 rfl rfl ?_
    refine g_getr C 0 1 Fx9 h0 (by decide) rfl rfl q_919 dX9_tell_26 ?_
    refine g_bipush C (7 : Int32) dX9_tell_29 rfl ?_
    refine g_iald (n := 516) C (cl_9_0 h0) dX9_tell_31 (fun _ => ?_)
    refine g_iadd C dX9_tell_32 ?_
    refine g_iload_n C dX9_tell_33 1 rfl rfl ?_
    refine g_iast (n := 516) C (cl_9_0 h0) dX9_tell_34 (fun m1 => ?_)
    refine g_aload_n C dX9_tell_35 0 rfl rfl ?_
    refine g_getr C 0 1 Fx9 h0 (by decide) rfl rfl q_919 dX9_tell_36 ?_
    refine g_bipush C (7 : Int32) dX9_tell_39 rfl ?_
    refine g_dup2 C dX9_tell_41 rfl rfl ?_
    refine g_iald (n := 516) C (cl_9_0 h0) dX9_tell_42 (fun _ => ?_)
    refine g_iconst C (1 : Int32) dX9_tell_43 rfl ?_
    refine g_iadd C dX9_tell_44 ?_
    refine g_iast (n := 516) C (cl_9_0 h0) dX9_tell_45 (fun m2 => ?_)
    refine g_aload_n C dX9_tell_46 0 rfl rfl ?_
    refine g_getr C 0 1 Fx9 h0 (by decide) rfl rfl q_919 dX9_tell_47 ?_
    refine g_bipush C (7 : Int32) dX9_tell_50 rfl ?_
    refine g_iald (n := 516) C (cl_9_0 h0) dX9_tell_52 (fun _ => ?_)
    exact g_iret C Rr dX9_tell_53
  · refine g_aload_n C dX9_tell_12 0 rfl rfl ?_
    refine g_iconst C (4 : Int32) dX9_tell_13 rfl ?_
    refine g_callVi C cv_X9_error (ct_X9_error a0 (4 : Int32) h0 m0) q_990 h0 (by decide) rfl rfl (Nat.le_of_ble_eq_true rfl) dX9_tell_14 (fun r3 m4 => ?_)
    exact g_iret C Rr dX9_tell_17
theorem ct_X9_tell {Ω : OT} (a0 : Nat) (x1 : Int32) (h0 : tg a0 = 9) (m0 : Mem) : Ct Ω yX9_tell cX9_tell 2 (some .int) 2 [.ref (oF Ω a0), .int x1] m0 (f_X9_tell a0 x1 m0) := by
  refine Ct_of (by decide) (Nat.le_of_ble_eq_true rfl) ?_
  intro K hK C Rr
  subst hK
  exact s_X9_tell C Rr  a0 x1 h0 m0
def X9_check_J107   (xs0 : Int32) (m0 : Mem) : Res :=
  some (xs0, m0)
def X9_check_J85   (a0 : Nat) (x2 : Int32) (x3 : Int32) (m0 : Mem) : Res :=
  cal (f_X9_carry (a0 + 3) 516 (a0 + 1) 516 m0) (fun r1 m2 =>
  (if x3 = 0 then
  X9_check_J107 ((1 : Int32) + x2) m2
  else
  X9_check_J107 (0 : Int32) m2))
def X9_check_J80  (k31 : Nat → Int32 → Int32 → Int32 → Mem → Res) (a0 : Nat) (x1 : Int32) (x3 : Int32) (xs0 : Int32) (xs1 : Int32) (m0 : Mem) : Res :=
  bnd (xs0 + xs1) (fun y1 =>
  k31 a0 x1 y1 x3 m0)
def X9_check_J69  (k31 : Nat → Int32 → Int32 → Int32 → Mem → Res) (a0 : Nat) (x1 : Int32) (x2 : Int32) (xs0 : Int32) (m0 : Mem) : Res :=
  (if xs0 = 0 then
  X9_check_J80 k31 a0 x1 xs0 x2 (0 : Int32) m0
  else
  X9_check_J80 k31 a0 x1 xs0 x2 (1 : Int32) m0)
def X9_check_L31B  (k31 : Nat → Int32 → Int32 → Int32 → Mem → Res) (a0 : Nat) (x1 : Int32) (x2 : Int32) (x3 : Int32) (m0 : Mem) : Res :=
  (if x1 ≤ x2 then
  X9_check_J85 a0 x2 x3 m0
  else
  (if x3 = 0 then
  X9_check_J85 a0 x2 x3 m0
  else
  cal (f_X9_day a0 (0 : Int32) m0) (fun r1 m2 =>
  gd (inb ((492 : Int32) + x2) 516) (
  gd (inb (3 : Int32) 516) (
  (if (m2 (a0 + 1) ((492 : Int32) + x2).toNatClampNeg) = (m2 (a0 + 1) (3 : Int32).toNatClampNeg) then
  X9_check_J69 k31 a0 x1 x2 (1 : Int32) m2
  else
  X9_check_J69 k31 a0 x1 x2 (0 : Int32) m2))))))
def X9_check_L31   : Nat → Nat → Int32 → Int32 → Int32 → Mem → Res
  | 0 => fun _ _ _ _ _ => none
  | n + 1 => X9_check_L31B (X9_check_L31 n)
def f_X9_check  (a0 : Nat) (m0 : Mem) : Res :=
  gd (inb (7 : Int32) 516) (
  bnd (m0 (a0 + 1) (7 : Int32).toNatClampNeg) (fun y1 =>
  gd (inb (7 : Int32) 516) (bnd (mset m0 (a0 + 1) (7 : Int32).toNatClampNeg (0 : Int32)) (fun m2 =>
  cal (f_X9_carry (a0 + 1) 516 (a0 + 3) 516 m2) (fun r3 m4 =>
  X9_check_L31 FU a0 y1 (0 : Int32) (1 : Int32) m4)))))
set_option maxHeartbeats 2000000 in
theorem s_X9_check_J107 {K : KT}  (C : Cx K cX9_check RX9 4 9) (Rr : Rx K (some .int))    (xs0 : Int32)  (m0 : Mem) : G K 107 [] [.int xs0] m0 (X9_check_J107 xs0 m0) := by
  unfold X9_check_J107
  exact g_iret C Rr dX9_check_107
set_option maxHeartbeats 2000000 in
theorem s_X9_check_J85 {K : KT}  (C : Cx K cX9_check RX9 4 9) (Rr : Rx K (some .int))    (a0 : Nat) (x2 : Int32) (x3 : Int32) (h0 : tg a0 = 9) (m0 : Mem) : G K 85 [(0, .ref (kf K a0)), (2, .int x2), (3, .int x3)] [] m0 (X9_check_J85 a0 x2 x3 m0) := by
  unfold X9_check_J85
  refine g_aload_n C dX9_check_85 0 rfl rfl ?_
  refine g_getr C 2 3 Fx9 h0 (by decide) rfl rfl q_921 dX9_check_86 ?_
  refine g_aload_n C dX9_check_89 0 rfl rfl ?_
  refine g_getr C 0 1 Fx9 h0 (by decide) rfl rfl q_919 dX9_check_90 ?_
  refine g_callSv C cv_X9_carry q_1243 (ct_X9_carry (a0 + 3) 516 (a0 + 1) 516 (cl_9_2 h0) (cl_9_0 h0) m0) q_1242 (by decide) rfl rfl (Nat.le_of_ble_eq_true rfl) dX9_check_93 (fun r1 m2 => ?_)
  refine g_iload_n C dX9_check_96 2 rfl rfl ?_
  refine g_if_eq C 104 dX9_check_97 (by decide) (fun _ => ?_) (fun _ => ?_)
  · refine g_iconst C (1 : Int32) dX9_check_104 rfl ?_
    refine g_iload_n C dX9_check_105 1 rfl rfl ?_
    refine g_iadd C dX9_check_106 ?_
    refine g_sub [] rfl ?_
    exact s_X9_check_J107 C Rr ((1 : Int32) + x2) m2
  · refine g_iconst C (0 : Int32) dX9_check_100 rfl ?_
    refine g_goto C 107 dX9_check_101 (by decide) ?_
    refine g_sub [] rfl ?_
    exact s_X9_check_J107 C Rr (0 : Int32) m2
set_option maxHeartbeats 2000000 in
theorem s_X9_check_J80 {K : KT}  (C : Cx K cX9_check RX9 4 9) (Rr : Rx K (some .int))  {k31 : Nat → Int32 → Int32 → Int32 → Mem → Res} (hk31 : ∀ (a0 : Nat) (x1 : Int32) (x2 : Int32) (x3 : Int32) (h0 : tg a0 = 9) (m0 : Mem), G K 31 [(0, .ref (kf K a0)), (1, .int x1), (2, .int x2), (3, .int x3)] [] m0 (k31 a0 x1 x2 x3 m0)) (a0 : Nat) (x1 : Int32) (x3 : Int32) (xs0 : Int32) (xs1 : Int32) (h0 : tg a0 = 9) (m0 : Mem) : G K 80 [(0, .ref (kf K a0)), (1, .int x1), (3, .int x3)] [.int xs1, .int xs0] m0 (X9_check_J80 k31 a0 x1 x3 xs0 xs1 m0) := by
  unfold X9_check_J80
  refine g_iadd C dX9_check_80 ?_
  refine g_bnd (fun y1 => ?_)
  refine g_istore_n C dX9_check_81 rfl (by decide) rfl ?_
  refine g_goto C 31 dX9_check_82 (by decide) ?_
  refine g_sub [1, 2, 0, 3] rfl ?_
  exact hk31 a0 x1 y1 x3 h0 m0
set_option maxHeartbeats 2000000 in
theorem s_X9_check_J69 {K : KT}  (C : Cx K cX9_check RX9 4 9) (Rr : Rx K (some .int))  {k31 : Nat → Int32 → Int32 → Int32 → Mem → Res} (hk31 : ∀ (a0 : Nat) (x1 : Int32) (x2 : Int32) (x3 : Int32) (h0 : tg a0 = 9) (m0 : Mem), G K 31 [(0, .ref (kf K a0)), (1, .int x1), (2, .int x2), (3, .int x3)] [] m0 (k31 a0 x1 x2 x3 m0)) (a0 : Nat) (x1 : Int32) (x2 : Int32) (xs0 : Int32) (h0 : tg a0 = 9) (m0 : Mem) : G K 69 [(0, .ref (kf K a0)), (1, .int x1), (2, .int x2)] [.int xs0] m0 (X9_check_J69 k31 a0 x1 x2 xs0 m0) := by
  unfold X9_check_J69
  refine g_istore_n C dX9_check_69 rfl (by decide) rfl ?_
  refine g_iload_n C dX9_check_70 3 rfl rfl ?_
  refine g_iload_n C dX9_check_71 0 rfl rfl ?_
  refine g_if_eq C 79 dX9_check_72 (by decide) (fun _ => ?_) (fun _ => ?_)
  · refine g_iconst C (0 : Int32) dX9_check_79 rfl ?_
    refine g_sub [1, 2, 0] rfl ?_
    exact s_X9_check_J80 C Rr hk31 a0 x1 xs0 x2 (0 : Int32) h0 m0
  · refine g_iconst C (1 : Int32) dX9_check_75 rfl ?_
    refine g_goto C 80 dX9_check_76 (by decide) ?_
    refine g_sub [1, 2, 0] rfl ?_
    exact s_X9_check_J80 C Rr hk31 a0 x1 xs0 x2 (1 : Int32) h0 m0
set_option maxHeartbeats 2000000 in
theorem s_X9_check_L31B {K : KT}  (C : Cx K cX9_check RX9 4 9) (Rr : Rx K (some .int))  {k31 : Nat → Int32 → Int32 → Int32 → Mem → Res} (hk31 : ∀ (a0 : Nat) (x1 : Int32) (x2 : Int32) (x3 : Int32) (h0 : tg a0 = 9) (m0 : Mem), G K 31 [(0, .ref (kf K a0)), (1, .int x1), (2, .int x2), (3, .int x3)] [] m0 (k31 a0 x1 x2 x3 m0)) (a0 : Nat) (x1 : Int32) (x2 : Int32) (x3 : Int32) (h0 : tg a0 = 9) (m0 : Mem) : G K 31 [(0, .ref (kf K a0)), (1, .int x1), (2, .int x2), (3, .int x3)] [] m0 (X9_check_L31B k31 a0 x1 x2 x3 m0) := by
  unfold X9_check_L31B
  refine g_iload_n C dX9_check_31 2 rfl rfl ?_
  refine g_iload_n C dX9_check_32 1 rfl rfl ?_
  refine g_icmp_ge C 85 dX9_check_33 (by decide) (fun _ => ?_) (fun _ => ?_)
  · refine g_sub [0, 2, 3] rfl ?_
    exact s_X9_check_J85 C Rr a0 x2 x3 h0 m0
  · refine g_iload_n C dX9_check_36 3 rfl rfl ?_
    refine g_if_eq C 85 dX9_check_37 (by decide) (fun _ => ?_) (fun _ => ?_)
    · refine g_sub [0, 2, 3] rfl ?_
      exact s_X9_check_J85 C Rr a0 x2 x3 h0 m0
    · refine g_aload_n C dX9_check_40 0 rfl rfl ?_
      refine g_iconst C (0 : Int32) dX9_check_41 rfl ?_
      refine g_callVv C cv_X9_day (ct_X9_day a0 (0 : Int32) h0 m0) q_1218 h0 (by decide) rfl rfl (Nat.le_of_ble_eq_true rfl) dX9_check_42 (fun r1 m2 => ?_)
      refine g_aload_n C dX9_check_45 0 rfl rfl ?_
      refine g_getr C 0 1 Fx9 h0 (by decide) rfl rfl q_919 dX9_check_46 ?_
      refine g_sipush C (492 : Int32) dX9_check_49 rfl ?_
      refine g_iload_n C dX9_check_52 2 rfl rfl ?_
      refine g_iadd C dX9_check_53 ?_
      refine g_iald (n := 516) C (cl_9_0 h0) dX9_check_54 (fun _ => ?_)
      refine g_aload_n C dX9_check_55 0 rfl rfl ?_
      refine g_getr C 0 1 Fx9 h0 (by decide) rfl rfl q_919 dX9_check_56 ?_
      refine g_iconst C (3 : Int32) dX9_check_59 rfl ?_
      refine g_iald (n := 516) C (cl_9_0 h0) dX9_check_60 (fun _ => ?_)
      refine g_icmp_ne C 68 dX9_check_61 (by decide) (fun _ => ?_) (fun _ => ?_)
      · refine g_iconst C (0 : Int32) dX9_check_68 rfl ?_
        refine g_sub [0, 1, 2] rfl ?_
        exact s_X9_check_J69 C Rr hk31 a0 x1 x2 (0 : Int32) h0 m2
      · refine g_iconst C (1 : Int32) dX9_check_64 rfl ?_
        refine g_goto C 69 dX9_check_65 (by decide) ?_
        refine g_sub [0, 1, 2] rfl ?_
        exact s_X9_check_J69 C Rr hk31 a0 x1 x2 (1 : Int32) h0 m2
theorem s_X9_check_L31 {K : KT}  (C : Cx K cX9_check RX9 4 9) (Rr : Rx K (some .int))    : ∀ (n : Nat) (a0 : Nat) (x1 : Int32) (x2 : Int32) (x3 : Int32) (h0 : tg a0 = 9) (m0 : Mem), G K 31 [(0, .ref (kf K a0)), (1, .int x1), (2, .int x2), (3, .int x3)] [] m0 (X9_check_L31 n a0 x1 x2 x3 m0) := by
  intro n
  induction n with
  | zero => intros; exact g_none
  | succ n ih =>
    intro a0 x1 x2 x3 h0 m0
    exact s_X9_check_L31B C Rr  ih a0 x1 x2 x3 h0 m0
set_option maxHeartbeats 2000000 in
theorem s_X9_check {K : KT}  (C : Cx K cX9_check RX9 4 9) (Rr : Rx K (some .int))  (a0 : Nat) (h0 : tg a0 = 9) (m0 : Mem) : G K 0 [(0, .ref (kf K a0))] [] m0 (f_X9_check a0 m0) := by
  unfold f_X9_check
  refine g_aload_n C dX9_check_0 0 rfl rfl ?_
  refine g_getr C 0 1 Fx9 h0 (by decide) rfl rfl q_919 dX9_check_1 ?_
  refine g_bipush C (7 : Int32) dX9_check_4 rfl ?_
  refine g_iald (n := 516) C (cl_9_0 h0) dX9_check_6 (fun _ => ?_)
  refine g_bnd (fun y1 => ?_)
  refine g_istore_n C dX9_check_7 rfl (by decide) rfl ?_
  refine g_aload_n C dX9_check_8 1 rfl rfl ?_
  refine g_getr C 0 1 Fx9 h0 (by decide) rfl rfl q_919 dX9_check_9 ?_
  refine g_bipush C (7 : Int32) dX9_check_12 rfl ?_
  refine g_iconst C (0 : Int32) dX9_check_14 rfl ?_
  refine g_iast (n := 516) C (cl_9_0 h0) dX9_check_15 (fun m2 => ?_)
  refine g_aload_n C dX9_check_16 1 rfl rfl ?_
  refine g_getr C 0 1 Fx9 h0 (by decide) rfl rfl q_919 dX9_check_17 ?_
  refine g_aload_n C dX9_check_20 1 rfl rfl ?_
  refine g_getr C 2 3 Fx9 h0 (by decide) rfl rfl q_921 dX9_check_21 ?_
  refine g_callSv C cv_X9_carry q_1243 (ct_X9_carry (a0 + 1) 516 (a0 + 3) 516 (cl_9_0 h0) (cl_9_2 h0) m2) q_1242 (by decide) rfl rfl (Nat.le_of_ble_eq_true rfl) dX9_check_24 (fun r3 m4 => ?_)
  refine g_iconst C (0 : Int32) dX9_check_27 rfl ?_
  refine g_istore_n C dX9_check_28 rfl (by decide) rfl ?_
  refine g_iconst C (1 : Int32) dX9_check_29 rfl ?_
  refine g_istore_n C dX9_check_30 rfl (by decide) rfl ?_
  refine g_sub [3, 2, 1, 0] rfl ?_
  exact s_X9_check_L31 C Rr FU a0 y1 (0 : Int32) (1 : Int32) h0 m4
theorem ct_X9_check {Ω : OT} (a0 : Nat) (h0 : tg a0 = 9) (m0 : Mem) : Ct Ω yX9_check cX9_check 4 (some .int) 9 [.ref (oF Ω a0)] m0 (f_X9_check a0 m0) := by
  refine Ct_of (by decide) (Nat.le_of_ble_eq_true rfl) ?_
  intro K hK C Rr
  subst hK
  exact s_X9_check C Rr  a0 h0 m0
def X9_count_J192   (xs0 : Int32) (m0 : Mem) : Res :=
  some (xs0, m0)
def X9_count_L4B  (k4 : Nat → Int32 → Int32 → Int32 → Mem → Res) (a0 : Nat) (x1 : Int32) (x2 : Int32) (x3 : Int32) (m0 : Mem) : Res :=
  gd (inb (0 : Int32) 516) (
  (if (m0 (a0 + 1) (0 : Int32).toNatClampNeg) ≤ x3 then
  (if x1 = (0 : Int32) then
  gd (inb (0 : Int32) 516) (
  some (m0 (a0 + 1) (0 : Int32).toNatClampNeg, m0))
  else
  if x1 = (1 : Int32) then
  gd (inb (1 : Int32) 516) (
  some (m0 (a0 + 1) (1 : Int32).toNatClampNeg, m0))
  else
  if x1 = (2 : Int32) then
  gd (inb (2 : Int32) 516) (
  some (m0 (a0 + 1) (2 : Int32).toNatClampNeg, m0))
  else
  if x1 = (3 : Int32) then
  gd (inb (3 : Int32) 516) (
  some (m0 (a0 + 1) (3 : Int32).toNatClampNeg, m0))
  else
  if x1 = (4 : Int32) then
  gd (inb (4 : Int32) 516) (
  some (m0 (a0 + 1) (4 : Int32).toNatClampNeg, m0))
  else
  if x1 = (5 : Int32) then
  gd (inb (5 : Int32) 516) (
  some (m0 (a0 + 1) (5 : Int32).toNatClampNeg, m0))
  else
  if x1 = (6 : Int32) then
  some (x2, m0)
  else
  if x1 = (7 : Int32) then
  gd (inb (6 : Int32) 516) (
  some (m0 (a0 + 1) (6 : Int32).toNatClampNeg, m0))
  else
  if x1 = (8 : Int32) then
  gd (inb (7 : Int32) 516) (
  some (m0 (a0 + 1) (7 : Int32).toNatClampNeg, m0))
  else
  if x1 = (9 : Int32) then
  some (m0 a0 13, m0)
  else
  if x1 = (10 : Int32) then
  gd (inb (8 : Int32) 516) (
  some (m0 (a0 + 1) (8 : Int32).toNatClampNeg, m0))
  else
  cal (f_X9_in x1 (11 : Int32) (16 : Int32) m0) (fun r12 m13 =>
  (if r12 = 0 then
  cal (f_X9_error a0 (1 : Int32) m13) (fun r14 m15 =>
  X9_count_J192 r14 m15)
  else
  gd (inb (((10 : Int32) + x1) - (11 : Int32)) 516) (
  X9_count_J192 (m13 (a0 + 1) (((10 : Int32) + x1) - (11 : Int32)).toNatClampNeg) m13))))
  else
  cal (f_X9_its a0 x3 (2 : Int32) m0) (fun r16 m17 =>
  bnd (x2 + r16) (fun y18 =>
  bnd (x3 + (1 : Int32)) (fun y19 =>
  k4 a0 x1 y18 y19 m17)))))
def X9_count_L4   : Nat → Nat → Int32 → Int32 → Int32 → Mem → Res
  | 0 => fun _ _ _ _ _ => none
  | n + 1 => X9_count_L4B (X9_count_L4 n)
def f_X9_count  (a0 : Nat) (x1 : Int32) (m0 : Mem) : Res :=
  X9_count_L4 FU a0 x1 (0 : Int32) (0 : Int32) m0
set_option maxHeartbeats 2000000 in
theorem s_X9_count_J192 {K : KT}  (C : Cx K cX9_count RX9 4 2) (Rr : Rx K (some .int))    (xs0 : Int32)  (m0 : Mem) : G K 192 [] [.int xs0] m0 (X9_count_J192 xs0 m0) := by
  unfold X9_count_J192
  exact g_iret C Rr dX9_count_192
set_option maxHeartbeats 2000000 in
theorem s_X9_count_L4B {K : KT}  (C : Cx K cX9_count RX9 4 2) (Rr : Rx K (some .int))  {k4 : Nat → Int32 → Int32 → Int32 → Mem → Res} (hk4 : ∀ (a0 : Nat) (x1 : Int32) (x2 : Int32) (x3 : Int32) (h0 : tg a0 = 9) (m0 : Mem), G K 4 [(0, .ref (kf K a0)), (1, .int x1), (2, .int x2), (3, .int x3)] [] m0 (k4 a0 x1 x2 x3 m0)) (a0 : Nat) (x1 : Int32) (x2 : Int32) (x3 : Int32) (h0 : tg a0 = 9) (m0 : Mem) : G K 4 [(0, .ref (kf K a0)), (1, .int x1), (2, .int x2), (3, .int x3)] [] m0 (X9_count_L4B k4 a0 x1 x2 x3 m0) := by
  unfold X9_count_L4B
  refine g_iload_n C dX9_count_4 3 rfl rfl ?_
  refine g_aload_n C dX9_count_5 0 rfl rfl ?_
  refine g_getr C 0 1 Fx9 h0 (by decide) rfl rfl q_919 dX9_count_6 ?_
  refine g_iconst C (0 : Int32) dX9_count_9 rfl ?_
  refine g_iald (n := 516) C (cl_9_0 h0) dX9_count_10 (fun _ => ?_)
  refine g_icmp_ge C 29 dX9_count_11 (by decide) (fun _ => ?_) (fun _ => ?_)
  · refine g_iload_n C dX9_count_29 1 rfl rfl ?_
    refine g_tsw C 88 dX9_count_30 (by decide) rfl (by decide) ?_ (fun e1 => ?_)
    · refine g_aload_n C dX9_count_88 0 rfl rfl ?_
      refine g_getr C 0 1 Fx9 h0 (by decide) rfl rfl q_919 dX9_count_89 ?_
      refine g_iconst C (0 : Int32) dX9_count_92 rfl ?_
      refine g_iald (n := 516) C (cl_9_0 h0) dX9_count_93 (fun _ => ?_)
      exact g_iret C Rr dX9_count_94
    refine g_tsw C 95 dX9_count_30 (by decide) rfl (by decide) ?_ (fun e2 => ?_)
    · refine g_aload_n C dX9_count_95 0 rfl rfl ?_
      refine g_getr C 0 1 Fx9 h0 (by decide) rfl rfl q_919 dX9_count_96 ?_
      refine g_iconst C (1 : Int32) dX9_count_99 rfl ?_
      refine g_iald (n := 516) C (cl_9_0 h0) dX9_count_100 (fun _ => ?_)
      exact g_iret C Rr dX9_count_101
    refine g_tsw C 102 dX9_count_30 (by decide) rfl (by decide) ?_ (fun e3 => ?_)
    · refine g_aload_n C dX9_count_102 0 rfl rfl ?_
      refine g_getr C 0 1 Fx9 h0 (by decide) rfl rfl q_919 dX9_count_103 ?_
      refine g_iconst C (2 : Int32) dX9_count_106 rfl ?_
      refine g_iald (n := 516) C (cl_9_0 h0) dX9_count_107 (fun _ => ?_)
      exact g_iret C Rr dX9_count_108
    refine g_tsw C 109 dX9_count_30 (by decide) rfl (by decide) ?_ (fun e4 => ?_)
    · refine g_aload_n C dX9_count_109 0 rfl rfl ?_
      refine g_getr C 0 1 Fx9 h0 (by decide) rfl rfl q_919 dX9_count_110 ?_
      refine g_iconst C (3 : Int32) dX9_count_113 rfl ?_
      refine g_iald (n := 516) C (cl_9_0 h0) dX9_count_114 (fun _ => ?_)
      exact g_iret C Rr dX9_count_115
    refine g_tsw C 116 dX9_count_30 (by decide) rfl (by decide) ?_ (fun e5 => ?_)
    · refine g_aload_n C dX9_count_116 0 rfl rfl ?_
      refine g_getr C 0 1 Fx9 h0 (by decide) rfl rfl q_919 dX9_count_117 ?_
      refine g_iconst C (4 : Int32) dX9_count_120 rfl ?_
      refine g_iald (n := 516) C (cl_9_0 h0) dX9_count_121 (fun _ => ?_)
      exact g_iret C Rr dX9_count_122
    refine g_tsw C 123 dX9_count_30 (by decide) rfl (by decide) ?_ (fun e6 => ?_)
    · refine g_aload_n C dX9_count_123 0 rfl rfl ?_
      refine g_getr C 0 1 Fx9 h0 (by decide) rfl rfl q_919 dX9_count_124 ?_
      refine g_iconst C (5 : Int32) dX9_count_127 rfl ?_
      refine g_iald (n := 516) C (cl_9_0 h0) dX9_count_128 (fun _ => ?_)
      exact g_iret C Rr dX9_count_129
    refine g_tsw C 130 dX9_count_30 (by decide) rfl (by decide) ?_ (fun e7 => ?_)
    · refine g_iload_n C dX9_count_130 2 rfl rfl ?_
      exact g_iret C Rr dX9_count_131
    refine g_tsw C 132 dX9_count_30 (by decide) rfl (by decide) ?_ (fun e8 => ?_)
    · refine g_aload_n C dX9_count_132 0 rfl rfl ?_
      refine g_getr C 0 1 Fx9 h0 (by decide) rfl rfl q_919 dX9_count_133 ?_
      refine g_bipush C (6 : Int32) dX9_count_136 rfl ?_
      refine g_iald (n := 516) C (cl_9_0 h0) dX9_count_138 (fun _ => ?_)
      exact g_iret C Rr dX9_count_139
    refine g_tsw C 140 dX9_count_30 (by decide) rfl (by decide) ?_ (fun e9 => ?_)
    · refine g_aload_n C dX9_count_140 0 rfl rfl ?_
      refine g_getr C 0 1 Fx9 h0 (by decide) rfl rfl q_919 dX9_count_141 ?_
      refine g_bipush C (7 : Int32) dX9_count_144 rfl ?_
      refine g_iald (n := 516) C (cl_9_0 h0) dX9_count_146 (fun _ => ?_)
      exact g_iret C Rr dX9_count_147
    refine g_tsw C 148 dX9_count_30 (by decide) rfl (by decide) ?_ (fun e10 => ?_)
    · refine g_aload_n C dX9_count_148 0 rfl rfl ?_
      refine g_geti C 13 Fx9 h0 (by decide) rfl rfl q_932 dX9_count_149 ?_
      exact g_iret C Rr dX9_count_152
    refine g_tsw C 153 dX9_count_30 (by decide) rfl (by decide) ?_ (fun e11 => ?_)
    · refine g_aload_n C dX9_count_153 0 rfl rfl ?_
      refine g_getr C 0 1 Fx9 h0 (by decide) rfl rfl q_919 dX9_count_154 ?_
      refine g_bipush C (8 : Int32) dX9_count_157 rfl ?_
      refine g_iald (n := 516) C (cl_9_0 h0) dX9_count_159 (fun _ => ?_)
      exact g_iret C Rr dX9_count_160
    refine g_tswd C 161 dX9_count_30 (sw_out [(0 : Int32), (1 : Int32), (2 : Int32), (3 : Int32), (4 : Int32), (5 : Int32), (6 : Int32), (7 : Int32), (8 : Int32), (9 : Int32), (10 : Int32)] (by intro v hv; simp only [List.mem_cons, List.not_mem_nil, or_false] at hv; rcases hv with rfl | rfl | rfl | rfl | rfl | rfl | rfl | rfl | rfl | rfl | rfl <;> assumption) (fun i h1 h2 => by have hi : i = 0 ∨ i = 1 ∨ i = 2 ∨ i = 3 ∨ i = 4 ∨ i = 5 ∨ i = 6 ∨ i = 7 ∨ i = 8 ∨ i = 9 ∨ i = 10 := (by omega); rcases hi with rfl | rfl | rfl | rfl | rfl | rfl | rfl | rfl | rfl | rfl | rfl <;> simp)) (by decide) ?_
    refine g_iload_n C dX9_count_161 1 rfl rfl ?_
    refine g_bipush C (11 : Int32) dX9_count_162 rfl ?_
    refine g_bipush C (16 : Int32) dX9_count_164 rfl ?_
    refine g_callSi C cv_X9_in q_988 (ct_X9_in x1 (11 : Int32) (16 : Int32)  m0) q_987 (by decide) rfl rfl (Nat.le_of_ble_eq_true rfl) dX9_count_166 (fun r12 m13 => ?_)
    refine g_if_eq C 187 dX9_count_169 (by decide) (fun _ => ?_) (fun _ => ?_)
    · refine g_aload_n C dX9_count_187 0 rfl rfl ?_
      refine g_iconst C (1 : Int32) dX9_count_188 rfl ?_
      refine g_callVi C cv_X9_error (ct_X9_error a0 (1 : Int32) h0 m13) q_990 h0 (by decide) rfl rfl (Nat.le_of_ble_eq_true rfl) dX9_count_189 (fun r14 m15 => ?_)
      refine g_sub [] rfl ?_
      exact s_X9_count_J192 C Rr r14 m15
    · refine g_aload_n C dX9_count_172 0 rfl rfl ?_
      refine g_getr C 0 1 Fx9 h0 (by decide) rfl rfl q_919 dX9_count_173 ?_
      refine g_bipush C (10 : Int32) dX9_count_176 rfl ?_
      refine g_iload_n C dX9_count_178 1 rfl rfl ?_
      refine g_iadd C dX9_count_179 ?_
      refine g_bipush C (11 : Int32) dX9_count_180 rfl ?_
      refine g_isub C dX9_count_182 ?_
      refine g_iald (n := 516) C (cl_9_0 h0) dX9_count_183 (fun _ => ?_)
      refine g_goto C 192 dX9_count_184 (by decide) ?_
      refine g_sub [] rfl ?_
      exact s_X9_count_J192 C Rr (m13 (a0 + 1) (((10 : Int32) + x1) - (11 : Int32)).toNatClampNeg) m13
  · refine g_iload_n C dX9_count_14 2 rfl rfl ?_
    refine g_aload_n C dX9_count_15 0 rfl rfl ?_
    refine g_iload_n C dX9_count_16 3 rfl rfl ?_
    refine g_iconst C (2 : Int32) dX9_count_17 rfl ?_
    refine g_callVi C cv_X9_its (ct_X9_its a0 x3 (2 : Int32) h0 m0) q_1031 h0 (by decide) rfl rfl (Nat.le_of_ble_eq_true rfl) dX9_count_18 (fun r16 m17 => ?_)
    refine g_iadd C dX9_count_21 ?_
    refine g_bnd (fun y18 => ?_)
    refine g_istore_n C dX9_count_22 rfl (by decide) rfl ?_
    refine g_iinc (k := 3) C dX9_count_23 rfl (w := (1 : Int32)) rfl (by decide) (fun v_ => [(3, .int v_), (2, .int y18), (0, .ref (kf K a0)), (1, .int x1)]) (fun _ => rfl) (fun y19 => ?_)
    refine g_goto C 4 dX9_count_26 (by decide) ?_
    refine g_sub [2, 3, 1, 0] rfl ?_
    exact hk4 a0 x1 y18 y19 h0 m17
theorem s_X9_count_L4 {K : KT}  (C : Cx K cX9_count RX9 4 2) (Rr : Rx K (some .int))    : ∀ (n : Nat) (a0 : Nat) (x1 : Int32) (x2 : Int32) (x3 : Int32) (h0 : tg a0 = 9) (m0 : Mem), G K 4 [(0, .ref (kf K a0)), (1, .int x1), (2, .int x2), (3, .int x3)] [] m0 (X9_count_L4 n a0 x1 x2 x3 m0) := by
  intro n
  induction n with
  | zero => intros; exact g_none
  | succ n ih =>
    intro a0 x1 x2 x3 h0 m0
    exact s_X9_count_L4B C Rr  ih a0 x1 x2 x3 h0 m0
set_option maxHeartbeats 2000000 in
theorem s_X9_count {K : KT}  (C : Cx K cX9_count RX9 4 2) (Rr : Rx K (some .int))  (a0 : Nat) (x1 : Int32) (h0 : tg a0 = 9) (m0 : Mem) : G K 0 [(0, .ref (kf K a0)), (1, .int x1)] [] m0 (f_X9_count a0 x1 m0) := by
  unfold f_X9_count
  refine g_iconst C (0 : Int32) dX9_count_0 rfl ?_
  refine g_istore_n C dX9_count_1 rfl (by decide) rfl ?_
  refine g_iconst C (0 : Int32) dX9_count_2 rfl ?_
  refine g_istore_n C dX9_count_3 rfl (by decide) rfl ?_
  refine g_sub [2, 3, 1, 0] rfl ?_
  exact s_X9_count_L4 C Rr FU a0 x1 (0 : Int32) (0 : Int32) h0 m0
theorem ct_X9_count {Ω : OT} (a0 : Nat) (x1 : Int32) (h0 : tg a0 = 9) (m0 : Mem) : Ct Ω yX9_count cX9_count 4 (some .int) 2 [.ref (oF Ω a0), .int x1] m0 (f_X9_count a0 x1 m0) := by
  refine Ct_of (by decide) (Nat.le_of_ble_eq_true rfl) ?_
  intro K hK C Rr
  subst hK
  exact s_X9_count C Rr  a0 x1 h0 m0
def X9_told_J24   (xs0 : Int32) (m0 : Mem) : Res :=
  some (xs0, m0)
def f_X9_told  (a0 : Nat) (x1 : Int32) (m0 : Mem) : Res :=
  cal (f_X9_in x1 (1 : Int32) (6 : Int32) m0) (fun r1 m2 =>
  (if r1 = 0 then
  cal (f_X9_error a0 (1 : Int32) m2) (fun r3 m4 =>
  X9_told_J24 r3 m4)
  else
  gd (inb x1 7) (
  X9_told_J24 (m2 (a0 + 4) x1.toNatClampNeg) m2)))
set_option maxHeartbeats 2000000 in
theorem s_X9_told_J24 {K : KT}  (C : Cx K cX9_told RX9 2 2) (Rr : Rx K (some .int))    (xs0 : Int32)  (m0 : Mem) : G K 24 [] [.int xs0] m0 (X9_told_J24 xs0 m0) := by
  unfold X9_told_J24
  exact g_iret C Rr dX9_told_24
set_option maxHeartbeats 2000000 in
theorem s_X9_told {K : KT}  (C : Cx K cX9_told RX9 2 2) (Rr : Rx K (some .int))  (a0 : Nat) (x1 : Int32) (h0 : tg a0 = 9) (m0 : Mem) : G K 0 [(0, .ref (kf K a0)), (1, .int x1)] [] m0 (f_X9_told a0 x1 m0) := by
  unfold f_X9_told
  refine g_iload_n C dX9_told_0 1 rfl rfl ?_
  refine g_iconst C (1 : Int32) dX9_told_1 rfl ?_
  refine g_bipush C (6 : Int32) dX9_told_2 rfl ?_
  refine g_callSi C cv_X9_in q_988 (ct_X9_in x1 (1 : Int32) (6 : Int32)  m0) q_987 (by decide) rfl rfl (Nat.le_of_ble_eq_true rfl) dX9_told_4 (fun r1 m2 => ?_)
  refine g_if_eq C 19 dX9_told_7 (by decide) (fun _ => ?_) (fun _ => ?_)
  · refine g_aload_n C dX9_told_19 0 rfl rfl ?_
    refine g_iconst C (1 : Int32) dX9_told_20 rfl ?_
    refine g_callVi C cv_X9_error (ct_X9_error a0 (1 : Int32) h0 m2) q_990 h0 (by decide) rfl rfl (Nat.le_of_ble_eq_true rfl) dX9_told_21 (fun r3 m4 => ?_)
    refine g_sub [] rfl ?_
    exact s_X9_told_J24 C Rr r3 m4
  · refine g_aload_n C dX9_told_10 0 rfl rfl ?_
    refine g_getr C 4 4 Fx9 h0 (by decide) rfl rfl q_923 dX9_told_11 ?_
    refine g_iload_n C dX9_told_14 1 rfl rfl ?_
    refine g_iald (n := 7) C (cl_9_4 h0) dX9_told_15 (fun _ => ?_)
    refine g_goto C 24 dX9_told_16 (by decide) ?_
    refine g_sub [] rfl ?_
    exact s_X9_told_J24 C Rr (m2 (a0 + 4) x1.toNatClampNeg) m2
theorem ct_X9_told {Ω : OT} (a0 : Nat) (x1 : Int32) (h0 : tg a0 = 9) (m0 : Mem) : Ct Ω yX9_told cX9_told 2 (some .int) 2 [.ref (oF Ω a0), .int x1] m0 (f_X9_told a0 x1 m0) := by
  refine Ct_of (by decide) (Nat.le_of_ble_eq_true rfl) ?_
  intro K hK C Rr
  subst hK
  exact s_X9_told C Rr  a0 x1 h0 m0
