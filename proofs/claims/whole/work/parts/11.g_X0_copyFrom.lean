def f_X0_copyFrom  (a0 : Nat) (a1 : Nat) (m0 : Mem) : Res :=
  bnd (mset m0 a0 0 (m0 a1 0)) (fun m1 =>
  bnd (mset m1 a0 1 (m1 a1 1)) (fun m2 =>
  bnd (mset m2 a0 2 (m2 a1 2)) (fun m3 =>
  bnd (mset m3 a0 3 (m3 a1 3)) (fun m4 =>
  some (0, m4)))))
set_option maxHeartbeats 2000000 in
theorem s_X0_copyFrom {K : KT}  (C : Cx K cX0_copyFrom RX0 2 1) (Rr : Rx K none)  (a0 : Nat) (a1 : Nat) (h0 : tg a0 = 0) (h1 : tg a1 = 0) (m0 : Mem) : G K 0 [(0, .ref (kf K a0)), (1, .ref (kf K a1))] [] m0 (f_X0_copyFrom a0 a1 m0) := by
  unfold f_X0_copyFrom
  refine g_aload_n C dX0_copyFrom_0 0 rfl rfl ?_
  refine g_aload_n C dX0_copyFrom_1 1 rfl rfl ?_
  refine g_geti C 0 Fx0 h1 (by decide) rfl rfl q_86 dX0_copyFrom_2 ?_
  refine g_puti C 0 Fx0 h0 (by decide) rfl rfl rfl rfl q_86 dX0_copyFrom_5 (fun m1 => ?_)
  refine g_aload_n C dX0_copyFrom_8 0 rfl rfl ?_
  refine g_aload_n C dX0_copyFrom_9 1 rfl rfl ?_
  refine g_geti C 1 Fx0 h1 (by decide) rfl rfl q_89 dX0_copyFrom_10 ?_
  refine g_puti C 1 Fx0 h0 (by decide) rfl rfl rfl rfl q_89 dX0_copyFrom_13 (fun m2 => ?_)
  refine g_aload_n C dX0_copyFrom_16 0 rfl rfl ?_
  refine g_aload_n C dX0_copyFrom_17 1 rfl rfl ?_
  refine g_geti C 2 Fx0 h1 (by decide) rfl rfl q_92 dX0_copyFrom_18 ?_
  refine g_puti C 2 Fx0 h0 (by decide) rfl rfl rfl rfl q_92 dX0_copyFrom_21 (fun m3 => ?_)
  refine g_aload_n C dX0_copyFrom_24 0 rfl rfl ?_
  refine g_aload_n C dX0_copyFrom_25 1 rfl rfl ?_
  refine g_geti C 3 Fx0 h1 (by decide) rfl rfl q_95 dX0_copyFrom_26 ?_
  refine g_puti C 3 Fx0 h0 (by decide) rfl rfl rfl rfl q_95 dX0_copyFrom_29 (fun m4 => ?_)
  exact g_vret C Rr dX0_copyFrom_32
theorem ct_X0_copyFrom {Ω : OT} (a0 : Nat) (a1 : Nat) (h0 : tg a0 = 0) (h1 : tg a1 = 0) (m0 : Mem) : Ct Ω yX0_copyFrom cX0_copyFrom 2 none 1 [.ref (oF Ω a0), .ref (oF Ω a1)] m0 (f_X0_copyFrom a0 a1 m0) := by
  refine Ct_of (by decide) (Nat.le_of_ble_eq_true rfl) ?_
  intro K hK C Rr
  subst hK
  exact s_X0_copyFrom C Rr  a0 a1 h0 h1 m0
def X1_isTold_J12   (xs0 : Int32) (m0 : Mem) : Res :=
  gd (isb xs0) (some (xs0, m0))
def f_X1_isTold  (a0 : Nat) (m0 : Mem) : Res :=
  (if (m0 a0 1) ≤ 0 then
  X1_isTold_J12 (0 : Int32) m0
  else
  X1_isTold_J12 (1 : Int32) m0)
set_option maxHeartbeats 2000000 in
theorem s_X1_isTold_J12 {K : KT}  (C : Cx K cX1_isTold RX1 1 1) (Rr : Rx K (some .boolean))    (xs0 : Int32)  (m0 : Mem) : G K 12 [] [.int xs0] m0 (X1_isTold_J12 xs0 m0) := by
  unfold X1_isTold_J12
  exact g_zret C Rr dX1_isTold_12
set_option maxHeartbeats 2000000 in
theorem s_X1_isTold {K : KT}  (C : Cx K cX1_isTold RX1 1 1) (Rr : Rx K (some .boolean))  (a0 : Nat) (h0 : tg a0 = 1) (m0 : Mem) : G K 0 [(0, .ref (kf K a0))] [] m0 (f_X1_isTold a0 m0) := by
  unfold f_X1_isTold
  refine g_aload_n C dX1_isTold_0 0 rfl rfl ?_
  refine g_geti C 1 Fx1 h0 (by decide) rfl rfl q_114 dX1_isTold_1 ?_
  refine g_if_le C 11 dX1_isTold_4 (by decide) (fun _ => ?_) (fun _ => ?_)
  · refine g_iconst C (0 : Int32) dX1_isTold_11 rfl ?_
    refine g_sub [] rfl ?_
    exact s_X1_isTold_J12 C Rr (0 : Int32) m0
  · refine g_iconst C (1 : Int32) dX1_isTold_7 rfl ?_
    refine g_goto C 12 dX1_isTold_8 (by decide) ?_
    refine g_sub [] rfl ?_
    exact s_X1_isTold_J12 C Rr (1 : Int32) m0
theorem ct_X1_isTold {Ω : OT} (a0 : Nat) (h0 : tg a0 = 1) (m0 : Mem) : Ct Ω yX1_isTold cX1_isTold 1 (some .boolean) 1 [.ref (oF Ω a0)] m0 (f_X1_isTold a0 m0) := by
  refine Ct_of (by decide) (Nat.le_of_ble_eq_true rfl) ?_
  intro K hK C Rr
  subst hK
  exact s_X1_isTold C Rr  a0 h0 m0
def f_X1_take  (a0 : Nat) (a1 n1 : Nat) (x2 : Int32) (m0 : Mem) : Res :=
  gd (cpok (0 : Int32) (0 : Int32) x2 n1 60) (bnd (mcpy m0 a1 (0 : Int32).toNatClampNeg (a0 + 1) (0 : Int32).toNatClampNeg x2.toNatClampNeg) (fun m1 =>
  bnd (mset m1 a0 1 x2) (fun m2 =>
  some (0, m2))))
set_option maxHeartbeats 2000000 in
theorem s_X1_take {K : KT}  (C : Cx K cX1_take RX1 3 1) (Rr : Rx K none)  (a0 : Nat) (a1 n1 : Nat) (x2 : Int32) (h0 : tg a0 = 1) (h1 : tg a1 = 100 + n1) (m0 : Mem) : G K 0 [(0, .ref (kf K a0)), (1, .ref (kf K a1)), (2, .int x2)] [] m0 (f_X1_take a0 a1 n1 x2 m0) := by
  unfold f_X1_take
  refine g_aload_n C dX1_take_0 1 rfl rfl ?_
  refine g_iconst C (0 : Int32) dX1_take_1 rfl ?_
  refine g_aload_n C dX1_take_2 0 rfl rfl ?_
  refine g_getr C 0 1 Fx1 h0 (by decide) rfl rfl q_112 dX1_take_3 ?_
  refine g_iconst C (0 : Int32) dX1_take_6 rfl ?_
  refine g_iload_n C dX1_take_7 2 rfl rfl ?_
  refine g_copy (na := n1) (nb := 60) C q_615 q_617 q_616 q_18 h1 (cl_1_0 h0) (by decide) (Nat.le_of_ble_eq_true rfl) dX1_take_8 (fun m1 => ?_)
  refine g_aload_n C dX1_take_11 0 rfl rfl ?_
  refine g_iload_n C dX1_take_12 2 rfl rfl ?_
  refine g_puti C 1 Fx1 h0 (by decide) rfl rfl rfl rfl q_114 dX1_take_13 (fun m2 => ?_)
  exact g_vret C Rr dX1_take_16
theorem ct_X1_take {Ω : OT} (a0 : Nat) (a1 n1 : Nat) (x2 : Int32) (h0 : tg a0 = 1) (h1 : tg a1 = 100 + n1) (m0 : Mem) : Ct Ω yX1_take cX1_take 3 none 1 [.ref (oF Ω a0), .ref (oF Ω a1), .int x2] m0 (f_X1_take a0 a1 n1 x2 m0) := by
  refine Ct_of (by decide) (Nat.le_of_ble_eq_true rfl) ?_
  intro K hK C Rr
  subst hK
  exact s_X1_take C Rr  a0 a1 n1 x2 h0 h1 m0
def X1_worked_J188   (xs0 : Int32) (m0 : Mem) : Res :=
  some (xs0, m0)
def X1_worked_J119   (xs0 : Int32) (m0 : Mem) : Res :=
  some (xs0, m0)
def X1_worked_J118    (m0 : Mem) : Res :=
  X1_worked_J119 (0 : Int32) m0
def X1_worked_J176   (xs0 : Int32) (m0 : Mem) : Res :=
  some (xs0, m0)
def X1_worked_J130   (xs0 : Int32) (m0 : Mem) : Res :=
  some (xs0, m0)
def X1_worked_J141   (xs0 : Int32) (m0 : Mem) : Res :=
  some (xs0, m0)
def X1_worked_J152   (xs0 : Int32) (m0 : Mem) : Res :=
  some (xs0, m0)
def X1_worked_J105   (xs0 : Int32) (m0 : Mem) : Res :=
  some (xs0, m0)
def X1_worked_J100    (m0 : Mem) : Res :=
  X1_worked_J105 (1 : Int32) m0
def f_X1_worked  (x0 : Int32) (x1 : Int32) (x2 : Int32) (m0 : Mem) : Res :=
  (if x0 = (37 : Int32) then
  (if x2 = 0 then
  X1_worked_J188 (0 : Int32) m0
  else
  gd (!(x2 == 0)) (
  X1_worked_J188 (irm x1 x2) m0))
  else
  if x0 = (38 : Int32) then
  (if x1 = 0 then
  X1_worked_J118 m0
  else
  (if x2 = 0 then
  X1_worked_J118 m0
  else
  X1_worked_J119 (1 : Int32) m0))
  else
  if x0 = (42 : Int32) then
  some (x1 * x2, m0)
  else
  if x0 = (43 : Int32) then
  some (x1 + x2, m0)
  else
  if x0 = (45 : Int32) then
  some (x1 - x2, m0)
  else
  if x0 = (47 : Int32) then
  (if x2 = 0 then
  X1_worked_J176 (0 : Int32) m0
  else
  gd (!(x2 == 0)) (
  X1_worked_J176 (x1 / x2) m0))
  else
  if x0 = (60 : Int32) then
  (if x2 ≤ x1 then
  X1_worked_J130 (0 : Int32) m0
  else
  X1_worked_J130 (1 : Int32) m0)
  else
  if x0 = (61 : Int32) then
  (if x1 = x2 then
  X1_worked_J141 (1 : Int32) m0
  else
  X1_worked_J141 (0 : Int32) m0)
  else
  if x0 = (62 : Int32) then
  (if x1 ≤ x2 then
  X1_worked_J152 (0 : Int32) m0
  else
  X1_worked_J152 (1 : Int32) m0)
  else
  if x0 = (124 : Int32) then
  (if x1 = 0 then
  (if x2 = 0 then
  X1_worked_J105 (0 : Int32) m0
  else
  X1_worked_J100 m0)
  else
  X1_worked_J100 m0)
  else
  some ((0 : Int32), m0))
set_option maxHeartbeats 2000000 in
theorem s_X1_worked_J188 {K : KT}  (C : Cx K cX1_worked RX1 3 1) (Rr : Rx K (some .int))    (xs0 : Int32)  (m0 : Mem) : G K 188 [] [.int xs0] m0 (X1_worked_J188 xs0 m0) := by
  unfold X1_worked_J188
  exact g_iret C Rr dX1_worked_188
set_option maxHeartbeats 2000000 in
theorem s_X1_worked_J119 {K : KT}  (C : Cx K cX1_worked RX1 3 1) (Rr : Rx K (some .int))    (xs0 : Int32)  (m0 : Mem) : G K 119 [] [.int xs0] m0 (X1_worked_J119 xs0 m0) := by
  unfold X1_worked_J119
  exact g_iret C Rr dX1_worked_119
set_option maxHeartbeats 2000000 in
theorem s_X1_worked_J118 {K : KT}  (C : Cx K cX1_worked RX1 3 1) (Rr : Rx K (some .int))      (m0 : Mem) : G K 118 [] [] m0 (X1_worked_J118 m0) := by
  unfold X1_worked_J118
  refine g_iconst C (0 : Int32) dX1_worked_118 rfl ?_
  refine g_sub [] rfl ?_
  exact s_X1_worked_J119 C Rr (0 : Int32) m0
set_option maxHeartbeats 2000000 in
theorem s_X1_worked_J176 {K : KT}  (C : Cx K cX1_worked RX1 3 1) (Rr : Rx K (some .int))    (xs0 : Int32)  (m0 : Mem) : G K 176 [] [.int xs0] m0 (X1_worked_J176 xs0 m0) := by
  unfold X1_worked_J176
  exact g_iret C Rr dX1_worked_176
set_option maxHeartbeats 2000000 in
theorem s_X1_worked_J130 {K : KT}  (C : Cx K cX1_worked RX1 3 1) (Rr : Rx K (some .int))    (xs0 : Int32)  (m0 : Mem) : G K 130 [] [.int xs0] m0 (X1_worked_J130 xs0 m0) := by
  unfold X1_worked_J130
  exact g_iret C Rr dX1_worked_130
set_option maxHeartbeats 2000000 in
theorem s_X1_worked_J141 {K : KT}  (C : Cx K cX1_worked RX1 3 1) (Rr : Rx K (some .int))    (xs0 : Int32)  (m0 : Mem) : G K 141 [] [.int xs0] m0 (X1_worked_J141 xs0 m0) := by
  unfold X1_worked_J141
  exact g_iret C Rr dX1_worked_141
set_option maxHeartbeats 2000000 in
theorem s_X1_worked_J152 {K : KT}  (C : Cx K cX1_worked RX1 3 1) (Rr : Rx K (some .int))    (xs0 : Int32)  (m0 : Mem) : G K 152 [] [.int xs0] m0 (X1_worked_J152 xs0 m0) := by
  unfold X1_worked_J152
  exact g_iret C Rr dX1_worked_152
set_option maxHeartbeats 2000000 in
theorem s_X1_worked_J105 {K : KT}  (C : Cx K cX1_worked RX1 3 1) (Rr : Rx K (some .int))    (xs0 : Int32)  (m0 : Mem) : G K 105 [] [.int xs0] m0 (X1_worked_J105 xs0 m0) := by
  unfold X1_worked_J105
  exact g_iret C Rr dX1_worked_105
set_option maxHeartbeats 2000000 in
theorem s_X1_worked_J100 {K : KT}  (C : Cx K cX1_worked RX1 3 1) (Rr : Rx K (some .int))      (m0 : Mem) : G K 100 [] [] m0 (X1_worked_J100 m0) := by
  unfold X1_worked_J100
  refine g_iconst C (1 : Int32) dX1_worked_100 rfl ?_
  refine g_goto C 105 dX1_worked_101 (by decide) ?_
  refine g_sub [] rfl ?_
  exact s_X1_worked_J105 C Rr (1 : Int32) m0
set_option maxHeartbeats 2000000 in
theorem s_X1_worked {K : KT}  (C : Cx K cX1_worked RX1 3 1) (Rr : Rx K (some .int))  (x0 : Int32) (x1 : Int32) (x2 : Int32)  (m0 : Mem) : G K 0 [(0, .int x0), (1, .int x1), (2, .int x2)] [] m0 (f_X1_worked x0 x1 x2 m0) := by
  unfold f_X1_worked
  refine g_iload_n C dX1_worked_0 0 rfl rfl ?_
  refine g_lsw C 177 dX1_worked_1 (by decide) rfl (by decide) ?_ (fun e1 => ?_)
  · refine g_iload_n C dX1_worked_177 2 rfl rfl ?_
    refine g_if_ne C 185 dX1_worked_178 (by decide) (fun _ => ?_) (fun _ => ?_)
    · refine g_iload_n C dX1_worked_185 1 rfl rfl ?_
      refine g_iload_n C dX1_worked_186 2 rfl rfl ?_
      refine g_irem C dX1_worked_187 (fun _ => ?_)
      refine g_sub [] rfl ?_
      exact s_X1_worked_J188 C Rr (irm x1 x2) m0
    · refine g_iconst C (0 : Int32) dX1_worked_181 rfl ?_
      refine g_goto C 188 dX1_worked_182 (by decide) ?_
      refine g_sub [] rfl ?_
      exact s_X1_worked_J188 C Rr (0 : Int32) m0
  refine g_lsw C 106 dX1_worked_1 (by decide) rfl (by decide) ?_ (fun e2 => ?_)
  · refine g_iload_n C dX1_worked_106 1 rfl rfl ?_
    refine g_if_eq C 118 dX1_worked_107 (by decide) (fun _ => ?_) (fun _ => ?_)
    · refine g_sub [] rfl ?_
      exact s_X1_worked_J118 C Rr m0
    · refine g_iload_n C dX1_worked_110 2 rfl rfl ?_
      refine g_if_eq C 118 dX1_worked_111 (by decide) (fun _ => ?_) (fun _ => ?_)
      · refine g_sub [] rfl ?_
        exact s_X1_worked_J118 C Rr m0
      · refine g_iconst C (1 : Int32) dX1_worked_114 rfl ?_
        refine g_goto C 119 dX1_worked_115 (by decide) ?_
        refine g_sub [] rfl ?_
        exact s_X1_worked_J119 C Rr (1 : Int32) m0
  refine g_lsw C 161 dX1_worked_1 (by decide) rfl (by decide) ?_ (fun e3 => ?_)
  · refine g_iload_n C dX1_worked_161 1 rfl rfl ?_
    refine g_iload_n C dX1_worked_162 2 rfl rfl ?_
    refine g_imul C dX1_worked_163 ?_
    exact g_iret C Rr dX1_worked_164
  refine g_lsw C 153 dX1_worked_1 (by decide) rfl (by decide) ?_ (fun e4 => ?_)
  · refine g_iload_n C dX1_worked_153 1 rfl rfl ?_
    refine g_iload_n C dX1_worked_154 2 rfl rfl ?_
    refine g_iadd C dX1_worked_155 ?_
    exact g_iret C Rr dX1_worked_156
  refine g_lsw C 157 dX1_worked_1 (by decide) rfl (by decide) ?_ (fun e5 => ?_)
  · refine g_iload_n C dX1_worked_157 1 rfl rfl ?_
    refine g_iload_n C dX1_worked_158 2 rfl rfl ?_
    refine g_isub C dX1_worked_159 ?_
    exact g_iret C Rr dX1_worked_160
  refine g_lsw C 165 dX1_worked_1 (by decide) rfl (by decide) ?_ (fun e6 => ?_)
  · refine g_iload_n C dX1_worked_165 2 rfl rfl ?_
    refine g_if_ne C 173 dX1_worked_166 (by decide) (fun _ => ?_) (fun _ => ?_)
    · refine g_iload_n C dX1_worked_173 1 rfl rfl ?_
      refine g_iload_n C dX1_worked_174 2 rfl rfl ?_
      refine g_idiv C dX1_worked_175 (fun _ => ?_)
      refine g_sub [] rfl ?_
      exact s_X1_worked_J176 C Rr (x1 / x2) m0
    · refine g_iconst C (0 : Int32) dX1_worked_169 rfl ?_
      refine g_goto C 176 dX1_worked_170 (by decide) ?_
      refine g_sub [] rfl ?_
      exact s_X1_worked_J176 C Rr (0 : Int32) m0
  refine g_lsw C 120 dX1_worked_1 (by decide) rfl (by decide) ?_ (fun e7 => ?_)
  · refine g_iload_n C dX1_worked_120 1 rfl rfl ?_
    refine g_iload_n C dX1_worked_121 2 rfl rfl ?_
    refine g_icmp_ge C 129 dX1_worked_122 (by decide) (fun _ => ?_) (fun _ => ?_)
    · refine g_iconst C (0 : Int32) dX1_worked_129 rfl ?_
      refine g_sub [] rfl ?_
      exact s_X1_worked_J130 C Rr (0 : Int32) m0
    · refine g_iconst C (1 : Int32) dX1_worked_125 rfl ?_
      refine g_goto C 130 dX1_worked_126 (by decide) ?_
      refine g_sub [] rfl ?_
      exact s_X1_worked_J130 C Rr (1 : Int32) m0
  refine g_lsw C 131 dX1_worked_1 (by decide) rfl (by decide) ?_ (fun e8 => ?_)
  · refine g_iload_n C dX1_worked_131 1 rfl rfl ?_
    refine g_iload_n C dX1_worked_132 2 rfl rfl ?_
    refine g_icmp_ne C 140 dX1_worked_133 (by decide) (fun _ => ?_) (fun _ => ?_)
    · refine g_iconst C (0 : Int32) dX1_worked_140 rfl ?_
      refine g_sub [] rfl ?_
      exact s_X1_worked_J141 C Rr (0 : Int32) m0
    · refine g_iconst C (1 : Int32) dX1_worked_136 rfl ?_
      refine g_goto C 141 dX1_worked_137 (by decide) ?_
      refine g_sub [] rfl ?_
      exact s_X1_worked_J141 C Rr (1 : Int32) m0
  refine g_lsw C 142 dX1_worked_1 (by decide) rfl (by decide) ?_ (fun e9 => ?_)
  · refine g_iload_n C dX1_worked_142 1 rfl rfl ?_
    refine g_iload_n C dX1_worked_143 2 rfl rfl ?_
    refine g_icmp_le C 151 dX1_worked_144 (by decide) (fun _ => ?_) (fun _ => ?_)
    · refine g_iconst C (0 : Int32) dX1_worked_151 rfl ?_
      refine g_sub [] rfl ?_
      exact s_X1_worked_J152 C Rr (0 : Int32) m0
    · refine g_iconst C (1 : Int32) dX1_worked_147 rfl ?_
      refine g_goto C 152 dX1_worked_148 (by decide) ?_
      refine g_sub [] rfl ?_
      exact s_X1_worked_J152 C Rr (1 : Int32) m0
  refine g_lsw C 92 dX1_worked_1 (by decide) rfl (by decide) ?_ (fun e10 => ?_)
  · refine g_iload_n C dX1_worked_92 1 rfl rfl ?_
    refine g_if_ne C 100 dX1_worked_93 (by decide) (fun _ => ?_) (fun _ => ?_)
    · refine g_sub [] rfl ?_
      exact s_X1_worked_J100 C Rr m0
    · refine g_iload_n C dX1_worked_96 2 rfl rfl ?_
      refine g_if_eq C 104 dX1_worked_97 (by decide) (fun _ => ?_) (fun _ => ?_)
      · refine g_iconst C (0 : Int32) dX1_worked_104 rfl ?_
        refine g_sub [] rfl ?_
        exact s_X1_worked_J105 C Rr (0 : Int32) m0
      · refine g_sub [] rfl ?_
        exact s_X1_worked_J100 C Rr m0
  refine g_lswd C 189 [(37 : Int32), (38 : Int32), (42 : Int32), (43 : Int32), (45 : Int32), (47 : Int32), (60 : Int32), (61 : Int32), (62 : Int32), (124 : Int32)] dX1_worked_1 (by decide) rfl (by intro v hv; simp only [List.mem_cons, List.not_mem_nil, or_false] at hv; rcases hv with rfl | rfl | rfl | rfl | rfl | rfl | rfl | rfl | rfl | rfl <;> assumption) (by decide) ?_
  refine g_iconst C (0 : Int32) dX1_worked_189 rfl ?_
  exact g_iret C Rr dX1_worked_190
theorem ct_X1_worked {Ω : OT} (x0 : Int32) (x1 : Int32) (x2 : Int32)  (m0 : Mem) : Ct Ω yX1_worked cX1_worked 3 (some .int) 1 [.int x0, .int x1, .int x2] m0 (f_X1_worked x0 x1 x2 m0) := by
  refine Ct_of (by decide) (Nat.le_of_ble_eq_true rfl) ?_
  intro K hK C Rr
  subst hK
  exact s_X1_worked C Rr  x0 x1 x2 m0
def f_X1_named  (x0 : Int32) (x1 : Int32) (x2 : Int32) (x3 : Int32) (x4 : Int32) (m0 : Mem) : Res :=
  (if x0 = (-3 : Int32) then
  some (x3, m0)
  else
  if x0 = (-2 : Int32) then
  some (x2, m0)
  else
  if x0 = (-1 : Int32) then
  some (x1, m0)
  else
  some (x4, m0))
set_option maxHeartbeats 2000000 in
theorem s_X1_named {K : KT}  (C : Cx K cX1_named RX1 5 1) (Rr : Rx K (some .int))  (x0 : Int32) (x1 : Int32) (x2 : Int32) (x3 : Int32) (x4 : Int32)  (m0 : Mem) : G K 0 [(0, .int x0), (1, .int x1), (2, .int x2), (3, .int x3), (4, .int x4)] [] m0 (f_X1_named x0 x1 x2 x3 x4 m0) := by
  unfold f_X1_named
  refine g_iload_n C dX1_named_0 0 rfl rfl ?_
  refine g_tsw C 32 dX1_named_1 (by decide) rfl (by decide) ?_ (fun e1 => ?_)
  · refine g_iload_n C dX1_named_32 3 rfl rfl ?_
    exact g_iret C Rr dX1_named_33
  refine g_tsw C 30 dX1_named_1 (by decide) rfl (by decide) ?_ (fun e2 => ?_)
  · refine g_iload_n C dX1_named_30 2 rfl rfl ?_
    exact g_iret C Rr dX1_named_31
  refine g_tsw C 28 dX1_named_1 (by decide) rfl (by decide) ?_ (fun e3 => ?_)
  · refine g_iload_n C dX1_named_28 1 rfl rfl ?_
    exact g_iret C Rr dX1_named_29
  refine g_tswd C 34 dX1_named_1 (sw_out [(-3 : Int32), (-2 : Int32), (-1 : Int32)] (by intro v hv; simp only [List.mem_cons, List.not_mem_nil, or_false] at hv; rcases hv with rfl | rfl | rfl <;> assumption) (fun i h1 h2 => by have hi : i = -3 ∨ i = -2 ∨ i = -1 := (by omega); rcases hi with rfl | rfl | rfl <;> simp)) (by decide) ?_
  refine g_iload C dX1_named_34 4 rfl ?_
  exact g_iret C Rr dX1_named_36
theorem ct_X1_named {Ω : OT} (x0 : Int32) (x1 : Int32) (x2 : Int32) (x3 : Int32) (x4 : Int32)  (m0 : Mem) : Ct Ω yX1_named cX1_named 5 (some .int) 1 [.int x0, .int x1, .int x2, .int x3, .int x4] m0 (f_X1_named x0 x1 x2 x3 x4 m0) := by
  refine Ct_of (by decide) (Nat.le_of_ble_eq_true rfl) ?_
  intro K hK C Rr
  subst hK
  exact s_X1_named C Rr  x0 x1 x2 x3 x4 m0
def X1_value_J180   (xs0 : Int32) (m0 : Mem) : Res :=
  some (xs0, m0)
def X1_value_J156  (k6 : Nat → Int32 → Int32 → Int32 → Int32 → Int32 → Int32 → Mem → Res) (a0 : Nat) (x1 : Int32) (x2 : Int32) (x3 : Int32) (x4 : Int32) (x5 : Int32) (x6 : Int32) (m0 : Mem) : Res :=
  bnd (x6 + (1 : Int32)) (fun y1 =>
  k6 a0 x1 x2 x3 x4 x5 y1 m0)
def X1_value_J116  (k6 : Nat → Int32 → Int32 → Int32 → Int32 → Int32 → Int32 → Mem → Res) (a0 : Nat) (x1 : Int32) (x2 : Int32) (x3 : Int32) (x4 : Int32) (x5 : Int32) (x6 : Int32) (x7 : Int32) (m0 : Mem) : Res :=
  (if x5 < (2 : Int32) then
  X1_value_J156 k6 a0 x1 x2 x3 x4 x5 x6 m0
  else
  bnd (x5 + (-1 : Int32)) (fun y1 =>
  gd (inb (y1 - (1 : Int32)) 60) (
  gd (inb y1 60) (
  cal (f_X1_worked (-x7) (m0 (a0 + 2) (y1 - (1 : Int32)).toNatClampNeg) (m0 (a0 + 2) y1.toNatClampNeg) m0) (fun r2 m3 =>
  gd (inb (y1 - (1 : Int32)) 60) (bnd (mset m3 (a0 + 2) (y1 - (1 : Int32)).toNatClampNeg r2) (fun m4 =>
  X1_value_J156 k6 a0 x1 x2 x3 x4 y1 x6 m4)))))))
def X1_value_J112  (k6 : Nat → Int32 → Int32 → Int32 → Int32 → Int32 → Int32 → Mem → Res) (a0 : Nat) (x1 : Int32) (x2 : Int32) (x3 : Int32) (x4 : Int32) (x5 : Int32) (x6 : Int32) (as0 : Nat) (xs1 : Int32) (xs2 : Int32) (m0 : Mem) : Res :=
  gd (inb xs1 60) (bnd (mset m0 as0 xs1.toNatClampNeg xs2) (fun m1 =>
  X1_value_J156 k6 a0 x1 x2 x3 x4 x5 x6 m1))
def X1_value_J74  (k6 : Nat → Int32 → Int32 → Int32 → Int32 → Int32 → Int32 → Mem → Res) (a0 : Nat) (x1 : Int32) (x2 : Int32) (x3 : Int32) (x4 : Int32) (x5 : Int32) (x6 : Int32) (x7 : Int32) (m0 : Mem) : Res :=
  (if x7 = (-33 : Int32) then
  (if x5 < (1 : Int32) then
  X1_value_J116 k6 a0 x1 x2 x3 x4 x5 x6 x7 m0
  else
  gd (inb (x5 - (1 : Int32)) 60) (
  (if (m0 (a0 + 2) (x5 - (1 : Int32)).toNatClampNeg) = 0 then
  X1_value_J112 k6 a0 x1 x2 x3 x4 x5 x6 (a0 + 2) (x5 - (1 : Int32)) (1 : Int32) m0
  else
  X1_value_J112 k6 a0 x1 x2 x3 x4 x5 x6 (a0 + 2) (x5 - (1 : Int32)) (0 : Int32) m0)))
  else
  X1_value_J116 k6 a0 x1 x2 x3 x4 x5 x6 x7 m0)
def X1_value_J67  (k6 : Nat → Int32 → Int32 → Int32 → Int32 → Int32 → Int32 → Mem → Res) (a0 : Nat) (x1 : Int32) (x2 : Int32) (x3 : Int32) (x4 : Int32) (x5 : Int32) (x6 : Int32) (as0 : Nat) (xs1 : Int32) (xs2 : Int32) (m0 : Mem) : Res :=
  gd (inb xs1 60) (bnd (mset m0 as0 xs1.toNatClampNeg xs2) (fun m1 =>
  bnd (x5 + (1 : Int32)) (fun y2 =>
  X1_value_J156 k6 a0 x1 x2 x3 x4 y2 x6 m1)))
def X1_value_L6B  (k6 : Nat → Int32 → Int32 → Int32 → Int32 → Int32 → Int32 → Mem → Res) (a0 : Nat) (x1 : Int32) (x2 : Int32) (x3 : Int32) (x4 : Int32) (x5 : Int32) (x6 : Int32) (m0 : Mem) : Res :=
  (if (m0 a0 1) ≤ x6 then
  (if x5 ≤ 0 then
  X1_value_J180 (0 : Int32) m0
  else
  gd (inb (x5 - (1 : Int32)) 60) (
  X1_value_J180 (m0 (a0 + 2) (x5 - (1 : Int32)).toNatClampNeg) m0))
  else
  gd (inb x6 60) (
  bnd (m0 (a0 + 1) x6.toNatClampNeg) (fun y1 =>
  (if y1 < (-4 : Int32) then
  X1_value_J74 k6 a0 x1 x2 x3 x4 x5 x6 y1 m0
  else
  (if (Int32.ofNat 60) ≤ x5 then
  X1_value_J74 k6 a0 x1 x2 x3 x4 x5 x6 y1 m0
  else
  (if y1 < 0 then
  cal (f_X1_named y1 x1 x2 x3 x4 m0) (fun r2 m3 =>
  X1_value_J67 k6 a0 x1 x2 x3 x4 x5 x6 (a0 + 2) x5 r2 m3)
  else
  X1_value_J67 k6 a0 x1 x2 x3 x4 x5 x6 (a0 + 2) x5 y1 m0))))))
def X1_value_L6   : Nat → Nat → Int32 → Int32 → Int32 → Int32 → Int32 → Int32 → Mem → Res
  | 0 => fun _ _ _ _ _ _ _ _ => none
  | n + 1 => X1_value_L6B (X1_value_L6 n)
def f_X1_value  (a0 : Nat) (x1 : Int32) (x2 : Int32) (x3 : Int32) (x4 : Int32) (m0 : Mem) : Res :=
  X1_value_L6 FU a0 x1 x2 x3 x4 (0 : Int32) (0 : Int32) m0
set_option maxHeartbeats 2000000 in
theorem s_X1_value_J180 {K : KT}  (C : Cx K cX1_value RX1 8 2) (Rr : Rx K (some .int))    (xs0 : Int32)  (m0 : Mem) : G K 180 [] [.int xs0] m0 (X1_value_J180 xs0 m0) := by
  unfold X1_value_J180
  exact g_iret C Rr dX1_value_180
set_option maxHeartbeats 2000000 in
theorem s_X1_value_J156 {K : KT}  (C : Cx K cX1_value RX1 8 2) (Rr : Rx K (some .int))  {k6 : Nat → Int32 → Int32 → Int32 → Int32 → Int32 → Int32 → Mem → Res} (hk6 : ∀ (a0 : Nat) (x1 : Int32) (x2 : Int32) (x3 : Int32) (x4 : Int32) (x5 : Int32) (x6 : Int32) (h0 : tg a0 = 1) (m0 : Mem), G K 6 [(0, .ref (kf K a0)), (1, .int x1), (2, .int x2), (3, .int x3), (4, .int x4), (5, .int x5), (6, .int x6)] [] m0 (k6 a0 x1 x2 x3 x4 x5 x6 m0)) (a0 : Nat) (x1 : Int32) (x2 : Int32) (x3 : Int32) (x4 : Int32) (x5 : Int32) (x6 : Int32) (h0 : tg a0 = 1) (m0 : Mem) : G K 156 [(0, .ref (kf K a0)), (1, .int x1), (2, .int x2), (3, .int x3), (4, .int x4), (5, .int x5), (6, .int x6)] [] m0 (X1_value_J156 k6 a0 x1 x2 x3 x4 x5 x6 m0) := by
  unfold X1_value_J156
  refine g_iinc (k := 6) C dX1_value_156 rfl (w := (1 : Int32)) rfl (by decide) (fun v_ => [(6, .int v_), (0, .ref (kf K a0)), (1, .int x1), (2, .int x2), (3, .int x3), (4, .int x4), (5, .int x5)]) (fun _ => rfl) (fun y1 => ?_)
  refine g_goto C 6 dX1_value_159 (by decide) ?_
  refine g_sub [1, 2, 3, 4, 5, 6, 0] rfl ?_
  exact hk6 a0 x1 x2 x3 x4 x5 y1 h0 m0
set_option maxHeartbeats 2000000 in
theorem s_X1_value_J116 {K : KT}  (C : Cx K cX1_value RX1 8 2) (Rr : Rx K (some .int))  {k6 : Nat → Int32 → Int32 → Int32 → Int32 → Int32 → Int32 → Mem → Res} (hk6 : ∀ (a0 : Nat) (x1 : Int32) (x2 : Int32) (x3 : Int32) (x4 : Int32) (x5 : Int32) (x6 : Int32) (h0 : tg a0 = 1) (m0 : Mem), G K 6 [(0, .ref (kf K a0)), (1, .int x1), (2, .int x2), (3, .int x3), (4, .int x4), (5, .int x5), (6, .int x6)] [] m0 (k6 a0 x1 x2 x3 x4 x5 x6 m0)) (a0 : Nat) (x1 : Int32) (x2 : Int32) (x3 : Int32) (x4 : Int32) (x5 : Int32) (x6 : Int32) (x7 : Int32) (h0 : tg a0 = 1) (m0 : Mem) : G K 116 [(0, .ref (kf K a0)), (1, .int x1), (2, .int x2), (3, .int x3), (4, .int x4), (5, .int x5), (6, .int x6), (7, .int x7)] [] m0 (X1_value_J116 k6 a0 x1 x2 x3 x4 x5 x6 x7 m0) := by
  unfold X1_value_J116
  refine g_iload C dX1_value_116 5 rfl ?_
  refine g_iconst C (2 : Int32) dX1_value_118 rfl ?_
  refine g_icmp_lt C 156 dX1_value_119 (by decide) (fun _ => ?_) (fun _ => ?_)
  · refine g_sub [0, 1, 2, 3, 4, 5, 6] rfl ?_
    exact s_X1_value_J156 C Rr hk6 a0 x1 x2 x3 x4 x5 x6 h0 m0
  · refine g_iinc (k := 5) C dX1_value_122 rfl (w := (-1 : Int32)) rfl (by decide) (fun v_ => [(5, .int v_), (0, .ref (kf K a0)), (1, .int x1), (2, .int x2), (3, .int x3), (4, .int x4), (6, .int x6), (7, .int x7)]) (fun _ => rfl) (fun y1 => ?_)
    refine g_aload_n C dX1_value_125 1 rfl rfl ?_
    refine g_getr C 2 2 Fx1 h0 (by decide) rfl rfl q_117 dX1_value_126 ?_
    refine g_iload C dX1_value_129 0 rfl ?_
    refine g_iconst C (1 : Int32) dX1_value_131 rfl ?_
    refine g_isub C dX1_value_132 ?_
    refine g_iload C dX1_value_133 7 rfl ?_
    refine g_ineg C dX1_value_135 ?_
    refine g_aload_n C dX1_value_136 1 rfl rfl ?_
    refine g_getr C 2 2 Fx1 h0 (by decide) rfl rfl q_117 dX1_value_137 ?_
    refine g_iload C dX1_value_140 0 rfl ?_
    refine g_iconst C (1 : Int32) dX1_value_142 rfl ?_
    refine g_isub C dX1_value_143 ?_
    refine g_iald (n := 60) C (cl_1_2 h0) dX1_value_144 (fun _ => ?_)
    refine g_aload_n C dX1_value_145 1 rfl rfl ?_
    refine g_getr C 2 2 Fx1 h0 (by decide) rfl rfl q_117 dX1_value_146 ?_
    refine g_iload C dX1_value_149 0 rfl ?_
    refine g_iald (n := 60) C (cl_1_2 h0) dX1_value_151 (fun _ => ?_)
    refine g_callSi C cv_X1_worked q_432 (ct_X1_worked (-x7) (m0 (a0 + 2) (y1 - (1 : Int32)).toNatClampNeg) (m0 (a0 + 2) y1.toNatClampNeg)  m0) q_431 (by decide) rfl rfl (Nat.le_of_ble_eq_true rfl) dX1_value_152 (fun r2 m3 => ?_)
    refine g_iast (n := 60) C (cl_1_2 h0) dX1_value_155 (fun m4 => ?_)
    refine g_sub [1, 2, 3, 4, 5, 0, 6] rfl ?_
    exact s_X1_value_J156 C Rr hk6 a0 x1 x2 x3 x4 y1 x6 h0 m4
set_option maxHeartbeats 2000000 in
theorem s_X1_value_J112 {K : KT}  (C : Cx K cX1_value RX1 8 2) (Rr : Rx K (some .int))  {k6 : Nat → Int32 → Int32 → Int32 → Int32 → Int32 → Int32 → Mem → Res} (hk6 : ∀ (a0 : Nat) (x1 : Int32) (x2 : Int32) (x3 : Int32) (x4 : Int32) (x5 : Int32) (x6 : Int32) (h0 : tg a0 = 1) (m0 : Mem), G K 6 [(0, .ref (kf K a0)), (1, .int x1), (2, .int x2), (3, .int x3), (4, .int x4), (5, .int x5), (6, .int x6)] [] m0 (k6 a0 x1 x2 x3 x4 x5 x6 m0)) (a0 : Nat) (x1 : Int32) (x2 : Int32) (x3 : Int32) (x4 : Int32) (x5 : Int32) (x6 : Int32) (as0 : Nat) (xs1 : Int32) (xs2 : Int32) (h0 : tg a0 = 1) (hs0 : tg as0 = 100 + 60) (m0 : Mem) : G K 112 [(0, .ref (kf K a0)), (1, .int x1), (2, .int x2), (3, .int x3), (4, .int x4), (5, .int x5), (6, .int x6)] [.int xs2, .int xs1, .ref (kf K as0)] m0 (X1_value_J112 k6 a0 x1 x2 x3 x4 x5 x6 as0 xs1 xs2 m0) := by
  unfold X1_value_J112
  refine g_iast (n := 60) C hs0 dX1_value_112 (fun m1 => ?_)
  refine g_goto C 156 dX1_value_113 (by decide) ?_
  refine g_sub [0, 1, 2, 3, 4, 5, 6] rfl ?_
  exact s_X1_value_J156 C Rr hk6 a0 x1 x2 x3 x4 x5 x6 h0 m1
set_option maxHeartbeats 2000000 in
theorem s_X1_value_J74 {K : KT}  (C : Cx K cX1_value RX1 8 2) (Rr : Rx K (some .int))  {k6 : Nat → Int32 → Int32 → Int32 → Int32 → Int32 → Int32 → Mem → Res} (hk6 : ∀ (a0 : Nat) (x1 : Int32) (x2 : Int32) (x3 : Int32) (x4 : Int32) (x5 : Int32) (x6 : Int32) (h0 : tg a0 = 1) (m0 : Mem), G K 6 [(0, .ref (kf K a0)), (1, .int x1), (2, .int x2), (3, .int x3), (4, .int x4), (5, .int x5), (6, .int x6)] [] m0 (k6 a0 x1 x2 x3 x4 x5 x6 m0)) (a0 : Nat) (x1 : Int32) (x2 : Int32) (x3 : Int32) (x4 : Int32) (x5 : Int32) (x6 : Int32) (x7 : Int32) (h0 : tg a0 = 1) (m0 : Mem) : G K 74 [(0, .ref (kf K a0)), (1, .int x1), (2, .int x2), (3, .int x3), (4, .int x4), (5, .int x5), (6, .int x6), (7, .int x7)] [] m0 (X1_value_J74 k6 a0 x1 x2 x3 x4 x5 x6 x7 m0) := by
  unfold X1_value_J74
  refine g_iload C dX1_value_74 7 rfl ?_
  refine g_bipush C (-33 : Int32) dX1_value_76 rfl ?_
  refine g_icmp_ne C 116 dX1_value_78 (by decide) (fun _ => ?_) (fun _ => ?_)
  · refine g_sub [0, 1, 2, 3, 4, 5, 6, 7] rfl ?_
    exact s_X1_value_J116 C Rr hk6 a0 x1 x2 x3 x4 x5 x6 x7 h0 m0
  · refine g_iload C dX1_value_81 5 rfl ?_
    refine g_iconst C (1 : Int32) dX1_value_83 rfl ?_
    refine g_icmp_lt C 116 dX1_value_84 (by decide) (fun _ => ?_) (fun _ => ?_)
    · refine g_sub [0, 1, 2, 3, 4, 5, 6, 7] rfl ?_
      exact s_X1_value_J116 C Rr hk6 a0 x1 x2 x3 x4 x5 x6 x7 h0 m0
    · refine g_aload_n C dX1_value_87 0 rfl rfl ?_
      refine g_getr C 2 2 Fx1 h0 (by decide) rfl rfl q_117 dX1_value_88 ?_
      refine g_iload C dX1_value_91 5 rfl ?_
      refine g_iconst C (1 : Int32) dX1_value_93 rfl ?_
      refine g_isub C dX1_value_94 ?_
      refine g_aload_n C dX1_value_95 0 rfl rfl ?_
      refine g_getr C 2 2 Fx1 h0 (by decide) rfl rfl q_117 dX1_value_96 ?_
      refine g_iload C dX1_value_99 5 rfl ?_
      refine g_iconst C (1 : Int32) dX1_value_101 rfl ?_
      refine g_isub C dX1_value_102 ?_
      refine g_iald (n := 60) C (cl_1_2 h0) dX1_value_103 (fun _ => ?_)
      refine g_if_ne C 111 dX1_value_104 (by decide) (fun _ => ?_) (fun _ => ?_)
      · refine g_iconst C (0 : Int32) dX1_value_111 rfl ?_
        refine g_sub [0, 1, 2, 3, 4, 5, 6] rfl ?_
        exact s_X1_value_J112 C Rr hk6 a0 x1 x2 x3 x4 x5 x6 (a0 + 2) (x5 - (1 : Int32)) (0 : Int32) h0 (cl_1_2 h0) m0
      · refine g_iconst C (1 : Int32) dX1_value_107 rfl ?_
        refine g_goto C 112 dX1_value_108 (by decide) ?_
        refine g_sub [0, 1, 2, 3, 4, 5, 6] rfl ?_
        exact s_X1_value_J112 C Rr hk6 a0 x1 x2 x3 x4 x5 x6 (a0 + 2) (x5 - (1 : Int32)) (1 : Int32) h0 (cl_1_2 h0) m0
set_option maxHeartbeats 2000000 in
theorem s_X1_value_J67 {K : KT}  (C : Cx K cX1_value RX1 8 2) (Rr : Rx K (some .int))  {k6 : Nat → Int32 → Int32 → Int32 → Int32 → Int32 → Int32 → Mem → Res} (hk6 : ∀ (a0 : Nat) (x1 : Int32) (x2 : Int32) (x3 : Int32) (x4 : Int32) (x5 : Int32) (x6 : Int32) (h0 : tg a0 = 1) (m0 : Mem), G K 6 [(0, .ref (kf K a0)), (1, .int x1), (2, .int x2), (3, .int x3), (4, .int x4), (5, .int x5), (6, .int x6)] [] m0 (k6 a0 x1 x2 x3 x4 x5 x6 m0)) (a0 : Nat) (x1 : Int32) (x2 : Int32) (x3 : Int32) (x4 : Int32) (x5 : Int32) (x6 : Int32) (as0 : Nat) (xs1 : Int32) (xs2 : Int32) (h0 : tg a0 = 1) (hs0 : tg as0 = 100 + 60) (m0 : Mem) : G K 67 [(0, .ref (kf K a0)), (1, .int x1), (2, .int x2), (3, .int x3), (4, .int x4), (5, .int x5), (6, .int x6)] [.int xs2, .int xs1, .ref (kf K as0)] m0 (X1_value_J67 k6 a0 x1 x2 x3 x4 x5 x6 as0 xs1 xs2 m0) := by
  unfold X1_value_J67
  refine g_iast (n := 60) C hs0 dX1_value_67 (fun m1 => ?_)
  refine g_iinc (k := 5) C dX1_value_68 rfl (w := (1 : Int32)) rfl (by decide) (fun v_ => [(5, .int v_), (0, .ref (kf K a0)), (1, .int x1), (2, .int x2), (3, .int x3), (4, .int x4), (6, .int x6)]) (fun _ => rfl) (fun y2 => ?_)
  refine g_goto C 156 dX1_value_71 (by decide) ?_
  refine g_sub [1, 2, 3, 4, 5, 0, 6] rfl ?_
  exact s_X1_value_J156 C Rr hk6 a0 x1 x2 x3 x4 y2 x6 h0 m1
set_option maxHeartbeats 2000000 in
theorem s_X1_value_L6B {K : KT}  (C : Cx K cX1_value RX1 8 2) (Rr : Rx K (some .int))  {k6 : Nat → Int32 → Int32 → Int32 → Int32 → Int32 → Int32 → Mem → Res} (hk6 : ∀ (a0 : Nat) (x1 : Int32) (x2 : Int32) (x3 : Int32) (x4 : Int32) (x5 : Int32) (x6 : Int32) (h0 : tg a0 = 1) (m0 : Mem), G K 6 [(0, .ref (kf K a0)), (1, .int x1), (2, .int x2), (3, .int x3), (4, .int x4), (5, .int x5), (6, .int x6)] [] m0 (k6 a0 x1 x2 x3 x4 x5 x6 m0)) (a0 : Nat) (x1 : Int32) (x2 : Int32) (x3 : Int32) (x4 : Int32) (x5 : Int32) (x6 : Int32) (h0 : tg a0 = 1) (m0 : Mem) : G K 6 [(0, .ref (kf K a0)), (1, .int x1), (2, .int x2), (3, .int x3), (4, .int x4), (5, .int x5), (6, .int x6)] [] m0 (X1_value_L6B k6 a0 x1 x2 x3 x4 x5 x6 m0) := by
  unfold X1_value_L6B
  refine g_iload C dX1_value_6 6 rfl ?_
  refine g_aload_n C dX1_value_8 0 rfl rfl ?_
  refine g_geti C 1 Fx1 h0 (by decide) rfl rfl q_114 dX1_value_9 ?_
  refine g_icmp_ge C 162 dX1_value_12 (by decide) (fun _ => ?_) (fun _ => ?_)
  · refine g_iload C dX1_value_162 5 rfl ?_
    refine g_if_le C 179 dX1_value_164 (by decide) (fun _ => ?_) (fun _ => ?_)
    · refine g_iconst C (0 : Int32) dX1_value_179 rfl ?_
      refine g_sub [] rfl ?_
      exact s_X1_value_J180 C Rr (0 : Int32) m0
    · refine g_aload_n C dX1_value_167 0 rfl rfl ?_
      refine g_getr C 2 2 Fx1 h0 (by decide) rfl rfl q_117 dX1_value_168 ?_
      refine g_iload C dX1_value_171 5 rfl ?_
      refine g_iconst C (1 : Int32) dX1_value_173 rfl ?_
      refine g_isub C dX1_value_174 ?_
      refine g_iald (n := 60) C (cl_1_2 h0) dX1_value_175 (fun _ => ?_)
      refine g_goto C 180 dX1_value_176 (by decide) ?_
      refine g_sub [] rfl ?_
      exact s_X1_value_J180 C Rr (m0 (a0 + 2) (x5 - (1 : Int32)).toNatClampNeg) m0
  · refine g_aload_n C dX1_value_15 0 rfl rfl ?_
    refine g_getr C 0 1 Fx1 h0 (by decide) rfl rfl q_112 dX1_value_16 ?_
    refine g_iload C dX1_value_19 6 rfl ?_
    refine g_iald (n := 60) C (cl_1_0 h0) dX1_value_21 (fun _ => ?_)
    refine g_bnd (fun y1 => ?_)
    refine g_istore C dX1_value_22 (by decide) rfl ?_
    refine g_iload C dX1_value_24 0 rfl ?_
    refine g_bipush C (-4 : Int32) dX1_value_26 rfl ?_
    refine g_icmp_lt C 74 dX1_value_28 (by decide) (fun _ => ?_) (fun _ => ?_)
    · refine g_sub [1, 2, 3, 4, 5, 6, 7, 0] rfl ?_
      exact s_X1_value_J74 C Rr hk6 a0 x1 x2 x3 x4 x5 x6 y1 h0 m0
    · refine g_iload C dX1_value_31 6 rfl ?_
      refine g_aload_n C dX1_value_33 1 rfl rfl ?_
      refine g_getr C 2 2 Fx1 h0 (by decide) rfl rfl q_117 dX1_value_34 ?_
      refine g_alen (n := 60) (v := (Int32.ofNat 60)) C (cl_1_2 h0) rfl dX1_value_37 ?_
      refine g_icmp_ge C 74 dX1_value_38 (by decide) (fun _ => ?_) (fun _ => ?_)
      · refine g_sub [1, 2, 3, 4, 5, 6, 7, 0] rfl ?_
        exact s_X1_value_J74 C Rr hk6 a0 x1 x2 x3 x4 x5 x6 y1 h0 m0
      · refine g_aload_n C dX1_value_41 1 rfl rfl ?_
        refine g_getr C 2 2 Fx1 h0 (by decide) rfl rfl q_117 dX1_value_42 ?_
        refine g_iload C dX1_value_45 6 rfl ?_
        refine g_iload C dX1_value_47 0 rfl ?_
        refine g_if_lt C 57 dX1_value_49 (by decide) (fun _ => ?_) (fun _ => ?_)
        · refine g_iload C dX1_value_57 0 rfl ?_
          refine g_iload_n C dX1_value_59 2 rfl rfl ?_
          refine g_iload_n C dX1_value_60 3 rfl rfl ?_
          refine g_iload_n C dX1_value_61 4 rfl rfl ?_
          refine g_iload C dX1_value_62 5 rfl ?_
          refine g_callSi C cv_X1_named q_429 (ct_X1_named y1 x1 x2 x3 x4  m0) q_428 (by decide) rfl rfl (Nat.le_of_ble_eq_true rfl) dX1_value_64 (fun r2 m3 => ?_)
          refine g_sub [1, 2, 3, 4, 5, 6, 7] rfl ?_
          exact s_X1_value_J67 C Rr hk6 a0 x1 x2 x3 x4 x5 x6 (a0 + 2) x5 r2 h0 (cl_1_2 h0) m3
        · refine g_iload C dX1_value_52 0 rfl ?_
          refine g_goto C 67 dX1_value_54 (by decide) ?_
          refine g_sub [1, 2, 3, 4, 5, 6, 7] rfl ?_
          exact s_X1_value_J67 C Rr hk6 a0 x1 x2 x3 x4 x5 x6 (a0 + 2) x5 y1 h0 (cl_1_2 h0) m0
theorem s_X1_value_L6 {K : KT}  (C : Cx K cX1_value RX1 8 2) (Rr : Rx K (some .int))    : ∀ (n : Nat) (a0 : Nat) (x1 : Int32) (x2 : Int32) (x3 : Int32) (x4 : Int32) (x5 : Int32) (x6 : Int32) (h0 : tg a0 = 1) (m0 : Mem), G K 6 [(0, .ref (kf K a0)), (1, .int x1), (2, .int x2), (3, .int x3), (4, .int x4), (5, .int x5), (6, .int x6)] [] m0 (X1_value_L6 n a0 x1 x2 x3 x4 x5 x6 m0) := by
  intro n
  induction n with
  | zero => intros; exact g_none
  | succ n ih =>
    intro a0 x1 x2 x3 x4 x5 x6 h0 m0
    exact s_X1_value_L6B C Rr  ih a0 x1 x2 x3 x4 x5 x6 h0 m0
set_option maxHeartbeats 2000000 in
theorem s_X1_value {K : KT}  (C : Cx K cX1_value RX1 8 2) (Rr : Rx K (some .int))  (a0 : Nat) (x1 : Int32) (x2 : Int32) (x3 : Int32) (x4 : Int32) (h0 : tg a0 = 1) (m0 : Mem) : G K 0 [(0, .ref (kf K a0)), (1, .int x1), (2, .int x2), (3, .int x3), (4, .int x4)] [] m0 (f_X1_value a0 x1 x2 x3 x4 m0) := by
  unfold f_X1_value
  refine g_iconst C (0 : Int32) dX1_value_0 rfl ?_
  refine g_istore C dX1_value_1 (by decide) rfl ?_
  refine g_iconst C (0 : Int32) dX1_value_3 rfl ?_
  refine g_istore C dX1_value_4 (by decide) rfl ?_
  refine g_sub [2, 3, 4, 5, 6, 1, 0] rfl ?_
  exact s_X1_value_L6 C Rr FU a0 x1 x2 x3 x4 (0 : Int32) (0 : Int32) h0 m0
theorem ct_X1_value {Ω : OT} (a0 : Nat) (x1 : Int32) (x2 : Int32) (x3 : Int32) (x4 : Int32) (h0 : tg a0 = 1) (m0 : Mem) : Ct Ω yX1_value cX1_value 8 (some .int) 2 [.ref (oF Ω a0), .int x1, .int x2, .int x3, .int x4] m0 (f_X1_value a0 x1 x2 x3 x4 m0) := by
  refine Ct_of (by decide) (Nat.le_of_ble_eq_true rfl) ?_
  intro K hK C Rr
  subst hK
  exact s_X1_value C Rr  a0 x1 x2 x3 x4 h0 m0
def X2_levelOf_J100    (m0 : Mem) : Res :=
  some ((5 : Int32), m0)
def X2_levelOf_J98    (m0 : Mem) : Res :=
  some ((4 : Int32), m0)
def X2_levelOf_J96    (m0 : Mem) : Res :=
  some ((3 : Int32), m0)
def f_X2_levelOf  (x0 : Int32) (m0 : Mem) : Res :=
  (if x0 = (37 : Int32) then
  X2_levelOf_J100 m0
  else
  if x0 = (38 : Int32) then
  some ((2 : Int32), m0)
  else
  if x0 = (42 : Int32) then
  X2_levelOf_J100 m0
  else
  if x0 = (43 : Int32) then
  X2_levelOf_J98 m0
  else
  if x0 = (45 : Int32) then
  X2_levelOf_J98 m0
  else
  if x0 = (47 : Int32) then
  X2_levelOf_J100 m0
  else
  if x0 = (60 : Int32) then
  X2_levelOf_J96 m0
  else
  if x0 = (61 : Int32) then
  X2_levelOf_J96 m0
  else
  if x0 = (62 : Int32) then
  X2_levelOf_J96 m0
  else
  if x0 = (124 : Int32) then
  some ((1 : Int32), m0)
  else
  some ((0 : Int32), m0))
set_option maxHeartbeats 2000000 in
theorem s_X2_levelOf_J100 {K : KT}  (C : Cx K cX2_levelOf RX2 1 1) (Rr : Rx K (some .int))      (m0 : Mem) : G K 100 [] [] m0 (X2_levelOf_J100 m0) := by
  unfold X2_levelOf_J100
  refine g_iconst C (5 : Int32) dX2_levelOf_100 rfl ?_
  exact g_iret C Rr dX2_levelOf_101
set_option maxHeartbeats 2000000 in
theorem s_X2_levelOf_J98 {K : KT}  (C : Cx K cX2_levelOf RX2 1 1) (Rr : Rx K (some .int))      (m0 : Mem) : G K 98 [] [] m0 (X2_levelOf_J98 m0) := by
  unfold X2_levelOf_J98
  refine g_iconst C (4 : Int32) dX2_levelOf_98 rfl ?_
  exact g_iret C Rr dX2_levelOf_99
set_option maxHeartbeats 2000000 in
theorem s_X2_levelOf_J96 {K : KT}  (C : Cx K cX2_levelOf RX2 1 1) (Rr : Rx K (some .int))      (m0 : Mem) : G K 96 [] [] m0 (X2_levelOf_J96 m0) := by
  unfold X2_levelOf_J96
  refine g_iconst C (3 : Int32) dX2_levelOf_96 rfl ?_
  exact g_iret C Rr dX2_levelOf_97
set_option maxHeartbeats 2000000 in
theorem s_X2_levelOf {K : KT}  (C : Cx K cX2_levelOf RX2 1 1) (Rr : Rx K (some .int))  (x0 : Int32)  (m0 : Mem) : G K 0 [(0, .int x0)] [] m0 (f_X2_levelOf x0 m0) := by
  unfold f_X2_levelOf
  refine g_iload_n C dX2_levelOf_0 0 rfl rfl ?_
  refine g_lsw C 100 dX2_levelOf_1 (by decide) rfl (by decide) ?_ (fun e1 => ?_)
  · refine g_sub [] rfl ?_
    exact s_X2_levelOf_J100 C Rr m0
  refine g_lsw C 94 dX2_levelOf_1 (by decide) rfl (by decide) ?_ (fun e2 => ?_)
  · refine g_iconst C (2 : Int32) dX2_levelOf_94 rfl ?_
    exact g_iret C Rr dX2_levelOf_95
  refine g_lsw C 100 dX2_levelOf_1 (by decide) rfl (by decide) ?_ (fun e3 => ?_)
  · refine g_sub [] rfl ?_
    exact s_X2_levelOf_J100 C Rr m0
  refine g_lsw C 98 dX2_levelOf_1 (by decide) rfl (by decide) ?_ (fun e4 => ?_)
  · refine g_sub [] rfl ?_
    exact s_X2_levelOf_J98 C Rr m0
  refine g_lsw C 98 dX2_levelOf_1 (by decide) rfl (by decide) ?_ (fun e5 => ?_)
  · refine g_sub [] rfl ?_
    exact s_X2_levelOf_J98 C Rr m0
  refine g_lsw C 100 dX2_levelOf_1 (by decide) rfl (by decide) ?_ (fun e6 => ?_)
  · refine g_sub [] rfl ?_
    exact s_X2_levelOf_J100 C Rr m0
  refine g_lsw C 96 dX2_levelOf_1 (by decide) rfl (by decide) ?_ (fun e7 => ?_)
  · refine g_sub [] rfl ?_
    exact s_X2_levelOf_J96 C Rr m0
  refine g_lsw C 96 dX2_levelOf_1 (by decide) rfl (by decide) ?_ (fun e8 => ?_)
  · refine g_sub [] rfl ?_
    exact s_X2_levelOf_J96 C Rr m0
  refine g_lsw C 96 dX2_levelOf_1 (by decide) rfl (by decide) ?_ (fun e9 => ?_)
  · refine g_sub [] rfl ?_
    exact s_X2_levelOf_J96 C Rr m0
  refine g_lsw C 92 dX2_levelOf_1 (by decide) rfl (by decide) ?_ (fun e10 => ?_)
  · refine g_iconst C (1 : Int32) dX2_levelOf_92 rfl ?_
    exact g_iret C Rr dX2_levelOf_93
  refine g_lswd C 102 [(37 : Int32), (38 : Int32), (42 : Int32), (43 : Int32), (45 : Int32), (47 : Int32), (60 : Int32), (61 : Int32), (62 : Int32), (124 : Int32)] dX2_levelOf_1 (by decide) rfl (by intro v hv; simp only [List.mem_cons, List.not_mem_nil, or_false] at hv; rcases hv with rfl | rfl | rfl | rfl | rfl | rfl | rfl | rfl | rfl | rfl <;> assumption) (by decide) ?_
  refine g_iconst C (0 : Int32) dX2_levelOf_102 rfl ?_
  exact g_iret C Rr dX2_levelOf_103
theorem ct_X2_levelOf {Ω : OT} (x0 : Int32)  (m0 : Mem) : Ct Ω yX2_levelOf cX2_levelOf 1 (some .int) 1 [.int x0] m0 (f_X2_levelOf x0 m0) := by
  refine Ct_of (by decide) (Nat.le_of_ble_eq_true rfl) ?_
  intro K hK C Rr
  subst hK
  exact s_X2_levelOf C Rr  x0 m0
def X2_emit_J32    (m0 : Mem) : Res :=
  some (0, m0)
def f_X2_emit  (a0 : Nat) (x1 : Int32) (m0 : Mem) : Res :=
  (if (Int32.ofNat 60) ≤ (m0 a0 1) then
  X2_emit_J32 m0
  else
  gd (inb (m0 a0 1) 60) (bnd (mset m0 (a0 + 1) (m0 a0 1).toNatClampNeg x1) (fun m1 =>
  bnd (mset m1 a0 1 ((m1 a0 1) + (1 : Int32))) (fun m2 =>
  X2_emit_J32 m2))))
set_option maxHeartbeats 2000000 in
theorem s_X2_emit_J32 {K : KT}  (C : Cx K cX2_emit RX2 2 1) (Rr : Rx K none)      (m0 : Mem) : G K 32 [] [] m0 (X2_emit_J32 m0) := by
  unfold X2_emit_J32
  exact g_vret C Rr dX2_emit_32
set_option maxHeartbeats 2000000 in
theorem s_X2_emit {K : KT}  (C : Cx K cX2_emit RX2 2 1) (Rr : Rx K none)  (a0 : Nat) (x1 : Int32) (h0 : tg a0 = 2) (m0 : Mem) : G K 0 [(0, .ref (kf K a0)), (1, .int x1)] [] m0 (f_X2_emit a0 x1 m0) := by
  unfold f_X2_emit
  refine g_aload_n C dX2_emit_0 0 rfl rfl ?_
  refine g_geti C 1 Fx2 h0 (by decide) rfl rfl q_199 dX2_emit_1 ?_
  refine g_aload_n C dX2_emit_4 0 rfl rfl ?_
  refine g_getr C 0 1 Fx2 h0 (by decide) rfl rfl q_197 dX2_emit_5 ?_
  refine g_alen (n := 60) (v := (Int32.ofNat 60)) C (cl_2_0 h0) rfl dX2_emit_8 ?_
  refine g_icmp_ge C 32 dX2_emit_9 (by decide) (fun _ => ?_) (fun _ => ?_)
  · refine g_sub [] rfl ?_
    exact s_X2_emit_J32 C Rr m0
  · refine g_aload_n C dX2_emit_12 0 rfl rfl ?_
    refine g_getr C 0 1 Fx2 h0 (by decide) rfl rfl q_197 dX2_emit_13 ?_
    refine g_aload_n C dX2_emit_16 0 rfl rfl ?_
    refine g_geti C 1 Fx2 h0 (by decide) rfl rfl q_199 dX2_emit_17 ?_
    refine g_iload_n C dX2_emit_20 1 rfl rfl ?_
    refine g_iast (n := 60) C (cl_2_0 h0) dX2_emit_21 (fun m1 => ?_)
    refine g_aload_n C dX2_emit_22 0 rfl rfl ?_
    refine g_dup C dX2_emit_23 rfl ?_
    refine g_geti C 1 Fx2 h0 (by decide) rfl rfl q_199 dX2_emit_24 ?_
    refine g_iconst C (1 : Int32) dX2_emit_27 rfl ?_
    refine g_iadd C dX2_emit_28 ?_
    refine g_puti C 1 Fx2 h0 (by decide) rfl rfl rfl rfl q_199 dX2_emit_29 (fun m2 => ?_)
    refine g_sub [] rfl ?_
    exact s_X2_emit_J32 C Rr m2
theorem ct_X2_emit {Ω : OT} (a0 : Nat) (x1 : Int32) (h0 : tg a0 = 2) (m0 : Mem) : Ct Ω yX2_emit cX2_emit 2 none 1 [.ref (oF Ω a0), .int x1] m0 (f_X2_emit a0 x1 m0) := by
  refine Ct_of (by decide) (Nat.le_of_ble_eq_true rfl) ?_
  intro K hK C Rr
  subst hK
  exact s_X2_emit C Rr  a0 x1 h0 m0
def X2_release_J58  (k7 : Nat → Int32 → Int32 → Mem → Res) (a0 : Nat) (x1 : Int32) (x2 : Int32) (x3 : Int32) (m0 : Mem) : Res :=
  cal (f_X2_emit a0 (-x3) m0) (fun r1 m2 =>
  bnd (mset m2 a0 3 ((m2 a0 3) - (1 : Int32))) (fun m3 =>
  bnd (x2 + (-1 : Int32)) (fun y4 =>
  k7 a0 x1 y4 m3)))
def X2_release_J33  (k7 : Nat → Int32 → Int32 → Mem → Res) (a0 : Nat) (x1 : Int32) (x2 : Int32) (x3 : Int32) (xs0 : Int32) (m0 : Mem) : Res :=
  (if x1 ≤ xs0 then
  (if x3 = (33 : Int32) then
  bnd (mset m0 a0 4 ((m0 a0 4) - (1 : Int32))) (fun m1 =>
  X2_release_J58 k7 a0 x1 x2 x3 m1)
  else
  X2_release_J58 k7 a0 x1 x2 x3 m0)
  else
  some (0, m0))
def X2_release_L7B  (k7 : Nat → Int32 → Int32 → Mem → Res) (a0 : Nat) (x1 : Int32) (x2 : Int32) (m0 : Mem) : Res :=
  (if x2 < 0 then
  some (0, m0)
  else
  gd (inb x2 60) (
  bnd (m0 (a0 + 2) x2.toNatClampNeg) (fun y1 =>
  (if y1 = (33 : Int32) then
  X2_release_J33 k7 a0 x1 x2 y1 (6 : Int32) m0
  else
  cal (f_X2_levelOf y1 m0) (fun r2 m3 =>
  X2_release_J33 k7 a0 x1 x2 y1 r2 m3)))))
def X2_release_L7   : Nat → Nat → Int32 → Int32 → Mem → Res
  | 0 => fun _ _ _ _ => none
  | n + 1 => X2_release_L7B (X2_release_L7 n)
def f_X2_release  (a0 : Nat) (x1 : Int32) (m0 : Mem) : Res :=
  bnd ((m0 a0 3) - (1 : Int32)) (fun y1 =>
  X2_release_L7 FU a0 x1 y1 m0)
set_option maxHeartbeats 2000000 in
theorem s_X2_release_J58 {K : KT}  (C : Cx K cX2_release RX2 5 2) (Rr : Rx K none)  {k7 : Nat → Int32 → Int32 → Mem → Res} (hk7 : ∀ (a0 : Nat) (x1 : Int32) (x2 : Int32) (h0 : tg a0 = 2) (m0 : Mem), G K 7 [(0, .ref (kf K a0)), (1, .int x1), (2, .int x2)] [] m0 (k7 a0 x1 x2 m0)) (a0 : Nat) (x1 : Int32) (x2 : Int32) (x3 : Int32) (h0 : tg a0 = 2) (m0 : Mem) : G K 58 [(0, .ref (kf K a0)), (1, .int x1), (2, .int x2), (3, .int x3)] [] m0 (X2_release_J58 k7 a0 x1 x2 x3 m0) := by
  unfold X2_release_J58
  refine g_aload_n C dX2_release_58 0 rfl rfl ?_
  refine g_iload_n C dX2_release_59 3 rfl rfl ?_
  refine g_ineg C dX2_release_60 ?_
  refine g_callVv C cv_X2_emit (ct_X2_emit a0 (-x3) h0 m0) q_496 h0 (by decide) rfl rfl (Nat.le_of_ble_eq_true rfl) dX2_release_61 (fun r1 m2 => ?_)
  refine g_aload_n C dX2_release_64 0 rfl rfl ?_
  refine g_dup C dX2_release_65 rfl ?_
  refine g_geti C 3 Fx2 h0 (by decide) rfl rfl q_202 dX2_release_66 ?_
  refine g_iconst C (1 : Int32) dX2_release_69 rfl ?_
  refine g_isub C dX2_release_70 ?_
  refine g_puti C 3 Fx2 h0 (by decide) rfl rfl rfl rfl q_202 dX2_release_71 (fun m3 => ?_)
  refine g_iinc (k := 2) C dX2_release_74 rfl (w := (-1 : Int32)) rfl (by decide) (fun v_ => [(2, .int v_), (0, .ref (kf K a0)), (1, .int x1), (3, .int x3)]) (fun _ => rfl) (fun y4 => ?_)
  refine g_goto C 7 dX2_release_77 (by decide) ?_
  refine g_sub [1, 2, 0] rfl ?_
  exact hk7 a0 x1 y4 h0 m3
set_option maxHeartbeats 2000000 in
theorem s_X2_release_J33 {K : KT}  (C : Cx K cX2_release RX2 5 2) (Rr : Rx K none)  {k7 : Nat → Int32 → Int32 → Mem → Res} (hk7 : ∀ (a0 : Nat) (x1 : Int32) (x2 : Int32) (h0 : tg a0 = 2) (m0 : Mem), G K 7 [(0, .ref (kf K a0)), (1, .int x1), (2, .int x2)] [] m0 (k7 a0 x1 x2 m0)) (a0 : Nat) (x1 : Int32) (x2 : Int32) (x3 : Int32) (xs0 : Int32) (h0 : tg a0 = 2) (m0 : Mem) : G K 33 [(0, .ref (kf K a0)), (1, .int x1), (2, .int x2), (3, .int x3)] [.int xs0] m0 (X2_release_J33 k7 a0 x1 x2 x3 xs0 m0) := by
  unfold X2_release_J33
  refine g_istore C dX2_release_33 (by decide) rfl ?_
  refine g_iload C dX2_release_35 0 rfl ?_
  refine g_iload_n C dX2_release_37 2 rfl rfl ?_
  refine g_icmp_ge C 42 dX2_release_38 (by decide) (fun _ => ?_) (fun _ => ?_)
  · refine g_iload_n C dX2_release_42 4 rfl rfl ?_
    refine g_bipush C (33 : Int32) dX2_release_43 rfl ?_
    refine g_icmp_ne C 58 dX2_release_45 (by decide) (fun _ => ?_) (fun _ => ?_)
    · refine g_sub [1, 2, 3, 4] rfl ?_
      exact s_X2_release_J58 C Rr hk7 a0 x1 x2 x3 h0 m0
    · refine g_aload_n C dX2_release_48 1 rfl rfl ?_
      refine g_dup C dX2_release_49 rfl ?_
      refine g_geti C 4 Fx2 h0 (by decide) rfl rfl q_203 dX2_release_50 ?_
      refine g_iconst C (1 : Int32) dX2_release_53 rfl ?_
      refine g_isub C dX2_release_54 ?_
      refine g_puti C 4 Fx2 h0 (by decide) rfl rfl rfl rfl q_203 dX2_release_55 (fun m1 => ?_)
      refine g_sub [1, 2, 3, 4] rfl ?_
      exact s_X2_release_J58 C Rr hk7 a0 x1 x2 x3 h0 m1
  · exact g_vret C Rr dX2_release_41
set_option maxHeartbeats 2000000 in
theorem s_X2_release_L7B {K : KT}  (C : Cx K cX2_release RX2 5 2) (Rr : Rx K none)  {k7 : Nat → Int32 → Int32 → Mem → Res} (hk7 : ∀ (a0 : Nat) (x1 : Int32) (x2 : Int32) (h0 : tg a0 = 2) (m0 : Mem), G K 7 [(0, .ref (kf K a0)), (1, .int x1), (2, .int x2)] [] m0 (k7 a0 x1 x2 m0)) (a0 : Nat) (x1 : Int32) (x2 : Int32) (h0 : tg a0 = 2) (m0 : Mem) : G K 7 [(0, .ref (kf K a0)), (1, .int x1), (2, .int x2)] [] m0 (X2_release_L7B k7 a0 x1 x2 m0) := by
  unfold X2_release_L7B
  refine g_iload_n C dX2_release_7 2 rfl rfl ?_
  refine g_if_lt C 80 dX2_release_8 (by decide) (fun _ => ?_) (fun _ => ?_)
  · exact g_vret C Rr dX2_release_80
  · refine g_aload_n C dX2_release_11 0 rfl rfl ?_
    refine g_getr C 2 2 Fx2 h0 (by decide) rfl rfl q_201 dX2_release_12 ?_
    refine g_iload_n C dX2_release_15 2 rfl rfl ?_
    refine g_iald (n := 60) C (cl_2_2 h0) dX2_release_16 (fun _ => ?_)
    refine g_bnd (fun y1 => ?_)
    refine g_istore_n C dX2_release_17 rfl (by decide) rfl ?_
    refine g_iload_n C dX2_release_18 0 rfl rfl ?_
    refine g_bipush C (33 : Int32) dX2_release_19 rfl ?_
    refine g_icmp_ne C 29 dX2_release_21 (by decide) (fun _ => ?_) (fun _ => ?_)
    · refine g_iload_n C dX2_release_29 0 rfl rfl ?_
      refine g_callSi C cv_X2_levelOf q_605 (ct_X2_levelOf y1  m0) q_604 (by decide) rfl rfl (Nat.le_of_ble_eq_true rfl) dX2_release_30 (fun r2 m3 => ?_)
      refine g_sub [1, 2, 3, 0] rfl ?_
      exact s_X2_release_J33 C Rr hk7 a0 x1 x2 y1 r2 h0 m3
    · refine g_bipush C (6 : Int32) dX2_release_24 rfl ?_
      refine g_goto C 33 dX2_release_26 (by decide) ?_
      refine g_sub [1, 2, 3, 0] rfl ?_
      exact s_X2_release_J33 C Rr hk7 a0 x1 x2 y1 (6 : Int32) h0 m0
theorem s_X2_release_L7 {K : KT}  (C : Cx K cX2_release RX2 5 2) (Rr : Rx K none)    : ∀ (n : Nat) (a0 : Nat) (x1 : Int32) (x2 : Int32) (h0 : tg a0 = 2) (m0 : Mem), G K 7 [(0, .ref (kf K a0)), (1, .int x1), (2, .int x2)] [] m0 (X2_release_L7 n a0 x1 x2 m0) := by
  intro n
  induction n with
  | zero => intros; exact g_none
  | succ n ih =>
    intro a0 x1 x2 h0 m0
    exact s_X2_release_L7B C Rr  ih a0 x1 x2 h0 m0
set_option maxHeartbeats 2000000 in
theorem s_X2_release {K : KT}  (C : Cx K cX2_release RX2 5 2) (Rr : Rx K none)  (a0 : Nat) (x1 : Int32) (h0 : tg a0 = 2) (m0 : Mem) : G K 0 [(0, .ref (kf K a0)), (1, .int x1)] [] m0 (f_X2_release a0 x1 m0) := by
  unfold f_X2_release
  refine g_aload_n C dX2_release_0 0 rfl rfl ?_
  refine g_geti C 3 Fx2 h0 (by decide) rfl rfl q_202 dX2_release_1 ?_
  refine g_iconst C (1 : Int32) dX2_release_4 rfl ?_
  refine g_isub C dX2_release_5 ?_
  refine g_bnd (fun y1 => ?_)
  refine g_istore_n C dX2_release_6 rfl (by decide) rfl ?_
  refine g_sub [1, 2, 0] rfl ?_
  exact s_X2_release_L7 C Rr FU a0 x1 y1 h0 m0
theorem ct_X2_release {Ω : OT} (a0 : Nat) (x1 : Int32) (h0 : tg a0 = 2) (m0 : Mem) : Ct Ω yX2_release cX2_release 5 none 2 [.ref (oF Ω a0), .int x1] m0 (f_X2_release a0 x1 m0) := by
  refine Ct_of (by decide) (Nat.le_of_ble_eq_true rfl) ?_
  intro K hK C Rr
  subst hK
  exact s_X2_release C Rr  a0 x1 h0 m0
def X8_within_J15   (xs0 : Int32) (m0 : Mem) : Res :=
  gd (isb xs0) (some (xs0, m0))
def X8_within_J14    (m0 : Mem) : Res :=
  X8_within_J15 (0 : Int32) m0
def f_X8_within  (x0 : Int32) (x1 : Int32) (x2 : Int32) (m0 : Mem) : Res :=
  (if x0 < x1 then
  X8_within_J14 m0
  else
  (if x2 < x0 then
  X8_within_J14 m0
  else
  X8_within_J15 (1 : Int32) m0))
set_option maxHeartbeats 2000000 in
theorem s_X8_within_J15 {K : KT}  (C : Cx K cX8_within RX8 3 1) (Rr : Rx K (some .boolean))    (xs0 : Int32)  (m0 : Mem) : G K 15 [] [.int xs0] m0 (X8_within_J15 xs0 m0) := by
  unfold X8_within_J15
  exact g_zret C Rr dX8_within_15
set_option maxHeartbeats 2000000 in
theorem s_X8_within_J14 {K : KT}  (C : Cx K cX8_within RX8 3 1) (Rr : Rx K (some .boolean))      (m0 : Mem) : G K 14 [] [] m0 (X8_within_J14 m0) := by
  unfold X8_within_J14
  refine g_iconst C (0 : Int32) dX8_within_14 rfl ?_
  refine g_sub [] rfl ?_
  exact s_X8_within_J15 C Rr (0 : Int32) m0
set_option maxHeartbeats 2000000 in
theorem s_X8_within {K : KT}  (C : Cx K cX8_within RX8 3 1) (Rr : Rx K (some .boolean))  (x0 : Int32) (x1 : Int32) (x2 : Int32)  (m0 : Mem) : G K 0 [(0, .int x0), (1, .int x1), (2, .int x2)] [] m0 (f_X8_within x0 x1 x2 m0) := by
  unfold f_X8_within
  refine g_iload_n C dX8_within_0 0 rfl rfl ?_
  refine g_iload_n C dX8_within_1 1 rfl rfl ?_
  refine g_icmp_lt C 14 dX8_within_2 (by decide) (fun _ => ?_) (fun _ => ?_)
  · refine g_sub [] rfl ?_
    exact s_X8_within_J14 C Rr m0
  · refine g_iload_n C dX8_within_5 0 rfl rfl ?_
    refine g_iload_n C dX8_within_6 2 rfl rfl ?_
    refine g_icmp_gt C 14 dX8_within_7 (by decide) (fun _ => ?_) (fun _ => ?_)
    · refine g_sub [] rfl ?_
      exact s_X8_within_J14 C Rr m0
    · refine g_iconst C (1 : Int32) dX8_within_10 rfl ?_
      refine g_goto C 15 dX8_within_11 (by decide) ?_
      refine g_sub [] rfl ?_
      exact s_X8_within_J15 C Rr (1 : Int32) m0
theorem ct_X8_within {Ω : OT} (x0 : Int32) (x1 : Int32) (x2 : Int32)  (m0 : Mem) : Ct Ω yX8_within cX8_within 3 (some .boolean) 1 [.int x0, .int x1, .int x2] m0 (f_X8_within x0 x1 x2 m0) := by
  refine Ct_of (by decide) (Nat.le_of_ble_eq_true rfl) ?_
  intro K hK C Rr
  subst hK
  exact s_X8_within C Rr  x0 x1 x2 m0
def X2_push_J32    (m0 : Mem) : Res :=
  some (0, m0)
def f_X2_push  (a0 : Nat) (x1 : Int32) (m0 : Mem) : Res :=
  (if (Int32.ofNat 60) ≤ (m0 a0 3) then
  X2_push_J32 m0
  else
  gd (inb (m0 a0 3) 60) (bnd (mset m0 (a0 + 2) (m0 a0 3).toNatClampNeg x1) (fun m1 =>
  bnd (mset m1 a0 3 ((m1 a0 3) + (1 : Int32))) (fun m2 =>
  X2_push_J32 m2))))
set_option maxHeartbeats 2000000 in
theorem s_X2_push_J32 {K : KT}  (C : Cx K cX2_push RX2 2 1) (Rr : Rx K none)      (m0 : Mem) : G K 32 [] [] m0 (X2_push_J32 m0) := by
  unfold X2_push_J32
  exact g_vret C Rr dX2_push_32
set_option maxHeartbeats 2000000 in
theorem s_X2_push {K : KT}  (C : Cx K cX2_push RX2 2 1) (Rr : Rx K none)  (a0 : Nat) (x1 : Int32) (h0 : tg a0 = 2) (m0 : Mem) : G K 0 [(0, .ref (kf K a0)), (1, .int x1)] [] m0 (f_X2_push a0 x1 m0) := by
  unfold f_X2_push
  refine g_aload_n C dX2_push_0 0 rfl rfl ?_
  refine g_geti C 3 Fx2 h0 (by decide) rfl rfl q_202 dX2_push_1 ?_
  refine g_aload_n C dX2_push_4 0 rfl rfl ?_
  refine g_getr C 2 2 Fx2 h0 (by decide) rfl rfl q_201 dX2_push_5 ?_
  refine g_alen (n := 60) (v := (Int32.ofNat 60)) C (cl_2_2 h0) rfl dX2_push_8 ?_
  refine g_icmp_ge C 32 dX2_push_9 (by decide) (fun _ => ?_) (fun _ => ?_)
  · refine g_sub [] rfl ?_
    exact s_X2_push_J32 C Rr m0
  · refine g_aload_n C dX2_push_12 0 rfl rfl ?_
    refine g_getr C 2 2 Fx2 h0 (by decide) rfl rfl q_201 dX2_push_13 ?_
    refine g_aload_n C dX2_push_16 0 rfl rfl ?_
    refine g_geti C 3 Fx2 h0 (by decide) rfl rfl q_202 dX2_push_17 ?_
    refine g_iload_n C dX2_push_20 1 rfl rfl ?_
    refine g_iast (n := 60) C (cl_2_2 h0) dX2_push_21 (fun m1 => ?_)
    refine g_aload_n C dX2_push_22 0 rfl rfl ?_
    refine g_dup C dX2_push_23 rfl ?_
    refine g_geti C 3 Fx2 h0 (by decide) rfl rfl q_202 dX2_push_24 ?_
    refine g_iconst C (1 : Int32) dX2_push_27 rfl ?_
    refine g_iadd C dX2_push_28 ?_
    refine g_puti C 3 Fx2 h0 (by decide) rfl rfl rfl rfl q_202 dX2_push_29 (fun m2 => ?_)
    refine g_sub [] rfl ?_
    exact s_X2_push_J32 C Rr m2
theorem ct_X2_push {Ω : OT} (a0 : Nat) (x1 : Int32) (h0 : tg a0 = 2) (m0 : Mem) : Ct Ω yX2_push cX2_push 2 none 1 [.ref (oF Ω a0), .int x1] m0 (f_X2_push a0 x1 m0) := by
  refine Ct_of (by decide) (Nat.le_of_ble_eq_true rfl) ?_
  intro K hK C Rr
  subst hK
  exact s_X2_push C Rr  a0 x1 h0 m0
def X2_takesSign_J59   (a0 : Nat) (x1 : Int32) (m0 : Mem) : Res :=
  cal (f_X2_push a0 x1 m0) (fun r1 m2 =>
  gd (isb (1 : Int32)) (bnd (mset m2 a0 6 (1 : Int32)) (fun m3 =>
  gd (isb (1 : Int32)) (some ((1 : Int32), m3)))))
def X2_takesSign_J24   (a0 : Nat) (x1 : Int32) (x2 : Int32) (as0 : Nat) (xs1 : Int32) (m0 : Mem) : Res :=
  cal (f_X2_release as0 xs1 m0) (fun r1 m2 =>
  (if x2 = (3 : Int32) then
  (if (m2 a0 3) ≤ 0 then
  X2_takesSign_J59 a0 x1 m2
  else
  gd (inb ((m2 a0 3) - (1 : Int32)) 60) (
  cal (f_X2_levelOf (m2 (a0 + 2) ((m2 a0 3) - (1 : Int32)).toNatClampNeg) m2) (fun r3 m4 =>
  (if r3 = (3 : Int32) then
  gd (isb (0 : Int32)) (some ((0 : Int32), m4))
  else
  X2_takesSign_J59 a0 x1 m4))))
  else
  X2_takesSign_J59 a0 x1 m2))
def f_X2_takesSign  (a0 : Nat) (x1 : Int32) (m0 : Mem) : Res :=
  cal (f_X2_levelOf x1 m0) (fun r1 m2 =>
  (if r1 = 0 then
  gd (isb (0 : Int32)) (some ((0 : Int32), m2))
  else
  (if r1 = (3 : Int32) then
  X2_takesSign_J24 a0 x1 r1 a0 (r1 + (1 : Int32)) m2
  else
  X2_takesSign_J24 a0 x1 r1 a0 r1 m2)))
set_option maxHeartbeats 2000000 in
theorem s_X2_takesSign_J59 {K : KT}  (C : Cx K cX2_takesSign RX2 3 3) (Rr : Rx K (some .boolean))    (a0 : Nat) (x1 : Int32) (h0 : tg a0 = 2) (m0 : Mem) : G K 59 [(0, .ref (kf K a0)), (1, .int x1)] [] m0 (X2_takesSign_J59 a0 x1 m0) := by
  unfold X2_takesSign_J59
  refine g_aload_n C dX2_takesSign_59 0 rfl rfl ?_
  refine g_iload_n C dX2_takesSign_60 1 rfl rfl ?_
  refine g_callVv C cv_X2_push (ct_X2_push a0 x1 h0 m0) q_504 h0 (by decide) rfl rfl (Nat.le_of_ble_eq_true rfl) dX2_takesSign_61 (fun r1 m2 => ?_)
  refine g_aload_n C dX2_takesSign_64 0 rfl rfl ?_
  refine g_iconst C (1 : Int32) dX2_takesSign_65 rfl ?_
  refine g_putZ (k := 6) C Fx2 h0 (by decide) rfl rfl rfl rfl q_205 dX2_takesSign_66 (fun m3 => ?_)
  refine g_iconst C (1 : Int32) dX2_takesSign_69 rfl ?_
  exact g_zret C Rr dX2_takesSign_70
set_option maxHeartbeats 2000000 in
theorem s_X2_takesSign_J24 {K : KT}  (C : Cx K cX2_takesSign RX2 3 3) (Rr : Rx K (some .boolean))    (a0 : Nat) (x1 : Int32) (x2 : Int32) (as0 : Nat) (xs1 : Int32) (h0 : tg a0 = 2) (hs0 : tg as0 = 2) (m0 : Mem) : G K 24 [(0, .ref (kf K a0)), (1, .int x1), (2, .int x2)] [.int xs1, .ref (kf K as0)] m0 (X2_takesSign_J24 a0 x1 x2 as0 xs1 m0) := by
  unfold X2_takesSign_J24
  refine g_callVv C cv_X2_release (ct_X2_release as0 xs1 hs0 m0) q_600 hs0 (by decide) rfl rfl (Nat.le_of_ble_eq_true rfl) dX2_takesSign_24 (fun r1 m2 => ?_)
  refine g_iload_n C dX2_takesSign_27 2 rfl rfl ?_
  refine g_iconst C (3 : Int32) dX2_takesSign_28 rfl ?_
  refine g_icmp_ne C 59 dX2_takesSign_29 (by decide) (fun _ => ?_) (fun _ => ?_)
  · refine g_sub [0, 1] rfl ?_
    exact s_X2_takesSign_J59 C Rr a0 x1 h0 m2
  · refine g_aload_n C dX2_takesSign_32 0 rfl rfl ?_
    refine g_geti C 3 Fx2 h0 (by decide) rfl rfl q_202 dX2_takesSign_33 ?_
    refine g_if_le C 59 dX2_takesSign_36 (by decide) (fun _ => ?_) (fun _ => ?_)
    · refine g_sub [0, 1] rfl ?_
      exact s_X2_takesSign_J59 C Rr a0 x1 h0 m2
    · refine g_aload_n C dX2_takesSign_39 0 rfl rfl ?_
      refine g_getr C 2 2 Fx2 h0 (by decide) rfl rfl q_201 dX2_takesSign_40 ?_
      refine g_aload_n C dX2_takesSign_43 0 rfl rfl ?_
      refine g_geti C 3 Fx2 h0 (by decide) rfl rfl q_202 dX2_takesSign_44 ?_
      refine g_iconst C (1 : Int32) dX2_takesSign_47 rfl ?_
      refine g_isub C dX2_takesSign_48 ?_
      refine g_iald (n := 60) C (cl_2_2 h0) dX2_takesSign_49 (fun _ => ?_)
      refine g_callSi C cv_X2_levelOf q_605 (ct_X2_levelOf (m2 (a0 + 2) ((m2 a0 3) - (1 : Int32)).toNatClampNeg)  m2) q_604 (by decide) rfl rfl (Nat.le_of_ble_eq_true rfl) dX2_takesSign_50 (fun r3 m4 => ?_)
      refine g_iconst C (3 : Int32) dX2_takesSign_53 rfl ?_
      refine g_icmp_ne C 59 dX2_takesSign_54 (by decide) (fun _ => ?_) (fun _ => ?_)
      · refine g_sub [0, 1] rfl ?_
        exact s_X2_takesSign_J59 C Rr a0 x1 h0 m4
      · refine g_iconst C (0 : Int32) dX2_takesSign_57 rfl ?_
        exact g_zret C Rr dX2_takesSign_58
set_option maxHeartbeats 2000000 in
theorem s_X2_takesSign {K : KT}  (C : Cx K cX2_takesSign RX2 3 3) (Rr : Rx K (some .boolean))  (a0 : Nat) (x1 : Int32) (h0 : tg a0 = 2) (m0 : Mem) : G K 0 [(0, .ref (kf K a0)), (1, .int x1)] [] m0 (f_X2_takesSign a0 x1 m0) := by
  unfold f_X2_takesSign
  refine g_iload_n C dX2_takesSign_0 1 rfl rfl ?_
  refine g_callSi C cv_X2_levelOf q_605 (ct_X2_levelOf x1  m0) q_604 (by decide) rfl rfl (Nat.le_of_ble_eq_true rfl) dX2_takesSign_1 (fun r1 m2 => ?_)
  refine g_istore_n C dX2_takesSign_4 rfl (by decide) rfl ?_
  refine g_iload_n C dX2_takesSign_5 0 rfl rfl ?_
  refine g_if_ne C 11 dX2_takesSign_6 (by decide) (fun _ => ?_) (fun _ => ?_)
  · refine g_aload_n C dX2_takesSign_11 1 rfl rfl ?_
    refine g_iload_n C dX2_takesSign_12 0 rfl rfl ?_
    refine g_iconst C (3 : Int32) dX2_takesSign_13 rfl ?_
    refine g_icmp_ne C 23 dX2_takesSign_14 (by decide) (fun _ => ?_) (fun _ => ?_)
    · refine g_iload_n C dX2_takesSign_23 0 rfl rfl ?_
      refine g_sub [1, 2, 0] rfl ?_
      exact s_X2_takesSign_J24 C Rr a0 x1 r1 a0 r1 h0 h0 m2
    · refine g_iload_n C dX2_takesSign_17 0 rfl rfl ?_
      refine g_iconst C (1 : Int32) dX2_takesSign_18 rfl ?_
      refine g_iadd C dX2_takesSign_19 ?_
      refine g_goto C 24 dX2_takesSign_20 (by decide) ?_
      refine g_sub [1, 2, 0] rfl ?_
      exact s_X2_takesSign_J24 C Rr a0 x1 r1 a0 (r1 + (1 : Int32)) h0 h0 m2
  · refine g_iconst C (0 : Int32) dX2_takesSign_9 rfl ?_
    exact g_zret C Rr dX2_takesSign_10
theorem ct_X2_takesSign {Ω : OT} (a0 : Nat) (x1 : Int32) (h0 : tg a0 = 2) (m0 : Mem) : Ct Ω yX2_takesSign cX2_takesSign 3 (some .boolean) 3 [.ref (oF Ω a0), .int x1] m0 (f_X2_takesSign a0 x1 m0) := by
  refine Ct_of (by decide) (Nat.le_of_ble_eq_true rfl) ?_
  intro K hK C Rr
  subst hK
  exact s_X2_takesSign C Rr  a0 x1 h0 m0
def f_X2_closes  (a0 : Nat) (m0 : Mem) : Res :=
  (if (m0 a0 5) = 0 then
  gd (isb (0 : Int32)) (some ((0 : Int32), m0))
  else
  cal (f_X2_release a0 (1 : Int32) m0) (fun r1 m2 =>
  bnd (mset m2 a0 3 ((m2 a0 3) - (1 : Int32))) (fun m3 =>
  bnd (mset m3 a0 5 ((m3 a0 5) - (1 : Int32))) (fun m4 =>
  bnd (mset m4 a0 4 ((m4 a0 4) - (1 : Int32))) (fun m5 =>
  gd (isb (1 : Int32)) (some ((1 : Int32), m5)))))))
set_option maxHeartbeats 2000000 in
theorem s_X2_closes {K : KT}  (C : Cx K cX2_closes RX2 1 3) (Rr : Rx K (some .boolean))  (a0 : Nat) (h0 : tg a0 = 2) (m0 : Mem) : G K 0 [(0, .ref (kf K a0))] [] m0 (f_X2_closes a0 m0) := by
  unfold f_X2_closes
  refine g_aload_n C dX2_closes_0 0 rfl rfl ?_
  refine g_geti C 5 Fx2 h0 (by decide) rfl rfl q_204 dX2_closes_1 ?_
  refine g_if_ne C 9 dX2_closes_4 (by decide) (fun _ => ?_) (fun _ => ?_)
  · refine g_aload_n C dX2_closes_9 0 rfl rfl ?_
    refine g_iconst C (1 : Int32) dX2_closes_10 rfl ?_
    refine g_callVv C cv_X2_release (ct_X2_release a0 (1 : Int32) h0 m0) q_600 h0 (by decide) rfl rfl (Nat.le_of_ble_eq_true rfl) dX2_closes_11 (fun r1 m2 => ?_)
    refine g_aload_n C dX2_closes_14 0 rfl rfl ?_
    refine g_dup C dX2_closes_15 rfl ?_
    refine g_geti C 3 Fx2 h0 (by decide) rfl rfl q_202 dX2_closes_16 ?_
    refine g_iconst C (1 : Int32) dX2_closes_19 rfl ?_
    refine g_isub C dX2_closes_20 ?_
    refine g_puti C 3 Fx2 h0 (by decide) rfl rfl rfl rfl q_202 dX2_closes_21 (fun m3 => ?_)
    refine g_aload_n C dX2_closes_24 0 rfl rfl ?_
    refine g_dup C dX2_closes_25 rfl ?_
    refine g_geti C 5 Fx2 h0 (by decide) rfl rfl q_204 dX2_closes_26 ?_
    refine g_iconst C (1 : Int32) dX2_closes_29 rfl ?_
    refine g_isub C dX2_closes_30 ?_
    refine g_puti C 5 Fx2 h0 (by decide) rfl rfl rfl rfl q_204 dX2_closes_31 (fun m4 => ?_)
    refine g_aload_n C dX2_closes_34 0 rfl rfl ?_
    refine g_dup C dX2_closes_35 rfl ?_
    refine g_geti C 4 Fx2 h0 (by decide) rfl rfl q_203 dX2_closes_36 ?_
    refine g_iconst C (1 : Int32) dX2_closes_39 rfl ?_
    refine g_isub C dX2_closes_40 ?_
    refine g_puti C 4 Fx2 h0 (by decide) rfl rfl rfl rfl q_203 dX2_closes_41 (fun m5 => ?_)
    refine g_iconst C (1 : Int32) dX2_closes_44 rfl ?_
    exact g_zret C Rr dX2_closes_45
  · refine g_iconst C (0 : Int32) dX2_closes_7 rfl ?_
    exact g_zret C Rr dX2_closes_8
theorem ct_X2_closes {Ω : OT} (a0 : Nat) (h0 : tg a0 = 2) (m0 : Mem) : Ct Ω yX2_closes cX2_closes 1 (some .boolean) 3 [.ref (oF Ω a0)] m0 (f_X2_closes a0 m0) := by
  refine Ct_of (by decide) (Nat.le_of_ble_eq_true rfl) ?_
  intro K hK C Rr
  subst hK
  exact s_X2_closes C Rr  a0 h0 m0
def X2_opens_J36   (a0 : Nat) (x1 : Int32) (m0 : Mem) : Res :=
  cal (f_X2_push a0 x1 m0) (fun r1 m2 =>
  gd (isb (1 : Int32)) (some ((1 : Int32), m2)))
def f_X2_opens  (a0 : Nat) (x1 : Int32) (m0 : Mem) : Res :=
  (if (m0 a0 4) = (5 : Int32) then
  gd (isb (0 : Int32)) (some ((0 : Int32), m0))
  else
  bnd (mset m0 a0 4 ((m0 a0 4) + (1 : Int32))) (fun m1 =>
  (if x1 = (40 : Int32) then
  bnd (mset m1 a0 5 ((m1 a0 5) + (1 : Int32))) (fun m2 =>
  X2_opens_J36 a0 x1 m2)
  else
  X2_opens_J36 a0 x1 m1)))
set_option maxHeartbeats 2000000 in
theorem s_X2_opens_J36 {K : KT}  (C : Cx K cX2_opens RX2 2 2) (Rr : Rx K (some .boolean))    (a0 : Nat) (x1 : Int32) (h0 : tg a0 = 2) (m0 : Mem) : G K 36 [(0, .ref (kf K a0)), (1, .int x1)] [] m0 (X2_opens_J36 a0 x1 m0) := by
  unfold X2_opens_J36
  refine g_aload_n C dX2_opens_36 0 rfl rfl ?_
  refine g_iload_n C dX2_opens_37 1 rfl rfl ?_
  refine g_callVv C cv_X2_push (ct_X2_push a0 x1 h0 m0) q_504 h0 (by decide) rfl rfl (Nat.le_of_ble_eq_true rfl) dX2_opens_38 (fun r1 m2 => ?_)
  refine g_iconst C (1 : Int32) dX2_opens_41 rfl ?_
  exact g_zret C Rr dX2_opens_42
set_option maxHeartbeats 2000000 in
theorem s_X2_opens {K : KT}  (C : Cx K cX2_opens RX2 2 2) (Rr : Rx K (some .boolean))  (a0 : Nat) (x1 : Int32) (h0 : tg a0 = 2) (m0 : Mem) : G K 0 [(0, .ref (kf K a0)), (1, .int x1)] [] m0 (f_X2_opens a0 x1 m0) := by
  unfold f_X2_opens
  refine g_aload_n C dX2_opens_0 0 rfl rfl ?_
  refine g_geti C 4 Fx2 h0 (by decide) rfl rfl q_203 dX2_opens_1 ?_
  refine g_iconst C (5 : Int32) dX2_opens_4 rfl ?_
  refine g_icmp_ne C 10 dX2_opens_5 (by decide) (fun _ => ?_) (fun _ => ?_)
  · refine g_aload_n C dX2_opens_10 0 rfl rfl ?_
    refine g_dup C dX2_opens_11 rfl ?_
    refine g_geti C 4 Fx2 h0 (by decide) rfl rfl q_203 dX2_opens_12 ?_
    refine g_iconst C (1 : Int32) dX2_opens_15 rfl ?_
    refine g_iadd C dX2_opens_16 ?_
    refine g_puti C 4 Fx2 h0 (by decide) rfl rfl rfl rfl q_203 dX2_opens_17 (fun m1 => ?_)
    refine g_iload_n C dX2_opens_20 1 rfl rfl ?_
    refine g_bipush C (40 : Int32) dX2_opens_21 rfl ?_
    refine g_icmp_ne C 36 dX2_opens_23 (by decide) (fun _ => ?_) (fun _ => ?_)
    · refine g_sub [0, 1] rfl ?_
      exact s_X2_opens_J36 C Rr a0 x1 h0 m1
    · refine g_aload_n C dX2_opens_26 0 rfl rfl ?_
      refine g_dup C dX2_opens_27 rfl ?_
      refine g_geti C 5 Fx2 h0 (by decide) rfl rfl q_204 dX2_opens_28 ?_
      refine g_iconst C (1 : Int32) dX2_opens_31 rfl ?_
      refine g_iadd C dX2_opens_32 ?_
      refine g_puti C 5 Fx2 h0 (by decide) rfl rfl rfl rfl q_204 dX2_opens_33 (fun m2 => ?_)
      refine g_sub [0, 1] rfl ?_
      exact s_X2_opens_J36 C Rr a0 x1 h0 m2
  · refine g_iconst C (0 : Int32) dX2_opens_8 rfl ?_
    exact g_zret C Rr dX2_opens_9
theorem ct_X2_opens {Ω : OT} (a0 : Nat) (x1 : Int32) (h0 : tg a0 = 2) (m0 : Mem) : Ct Ω yX2_opens cX2_opens 2 (some .boolean) 2 [.ref (oF Ω a0), .int x1] m0 (f_X2_opens a0 x1 m0) := by
  refine Ct_of (by decide) (Nat.le_of_ble_eq_true rfl) ?_
  intro K hK C Rr
  subst hK
  exact s_X2_opens C Rr  a0 x1 h0 m0
def f_X2_takesName  (a0 : Nat) (x1 : Int32) (m0 : Mem) : Res :=
  bnd (sidx (m0 a0 8) ((x1.toUInt32 % 65536).toInt32)) (fun y2 =>
  (if 0 ≤ y2 then
  cal (f_X2_emit a0 ((-1 : Int32) - y2) m0) (fun r3 m4 =>
  gd (isb (0 : Int32)) (bnd (mset m4 a0 6 (0 : Int32)) (fun m5 =>
  gd (isb (1 : Int32)) (some ((1 : Int32), m5)))))
  else
  gd (isb (0 : Int32)) (some ((0 : Int32), m0))))
set_option maxHeartbeats 2000000 in
theorem s_X2_takesName {K : KT}  (C : Cx K cX2_takesName RX2 3 10) (Rr : Rx K (some .boolean))  (a0 : Nat) (x1 : Int32) (h0 : tg a0 = 2) (m0 : Mem) : G K 0 [(0, .ref (kf K a0)), (1, .int x1)] [] m0 (f_X2_takesName a0 x1 m0) := by
  unfold f_X2_takesName
  refine g_aload_n C dX2_takesName_0 0 rfl rfl ?_
  refine g_get (k := 8) C Fx2 h0 (by decide) rfl rfl q_207 dX2_takesName_1 ?_
  refine g_iload_n C dX2_takesName_4 1 rfl rfl ?_
  refine g_i2c C dX2_takesName_5 ?_
  refine g_indexOf (C := C) q_512 (by decide) (Nat.le_of_ble_eq_true rfl) dX2_takesName_6 ?_
  refine g_bnd (fun y2 => ?_)
  refine g_istore_n C dX2_takesName_9 rfl (by decide) rfl ?_
  refine g_iload_n C dX2_takesName_10 0 rfl rfl ?_
  refine g_if_ge C 16 dX2_takesName_11 (by decide) (fun _ => ?_) (fun _ => ?_)
  · refine g_aload_n C dX2_takesName_16 1 rfl rfl ?_
    refine g_iconst C (-1 : Int32) dX2_takesName_17 rfl ?_
    refine g_iload_n C dX2_takesName_18 0 rfl rfl ?_
    refine g_isub C dX2_takesName_19 ?_
    refine g_callVv C cv_X2_emit (ct_X2_emit a0 ((-1 : Int32) - y2) h0 m0) q_496 h0 (by decide) rfl rfl (Nat.le_of_ble_eq_true rfl) dX2_takesName_20 (fun r3 m4 => ?_)
    refine g_aload_n C dX2_takesName_23 1 rfl rfl ?_
    refine g_iconst C (0 : Int32) dX2_takesName_24 rfl ?_
    refine g_putZ (k := 6) C Fx2 h0 (by decide) rfl rfl rfl rfl q_205 dX2_takesName_25 (fun m5 => ?_)
    refine g_iconst C (1 : Int32) dX2_takesName_28 rfl ?_
    exact g_zret C Rr dX2_takesName_29
  · refine g_iconst C (0 : Int32) dX2_takesName_14 rfl ?_
    exact g_zret C Rr dX2_takesName_15
theorem ct_X2_takesName {Ω : OT} (a0 : Nat) (x1 : Int32) (h0 : tg a0 = 2) (m0 : Mem) : Ct Ω yX2_takesName cX2_takesName 3 (some .boolean) 10 [.ref (oF Ω a0), .int x1] m0 (f_X2_takesName a0 x1 m0) := by
  refine Ct_of (by decide) (Nat.le_of_ble_eq_true rfl) ?_
  intro K hK C Rr
  subst hK
  exact s_X2_takesName C Rr  a0 x1 h0 m0
def X2_takesDigit_J46    (m0 : Mem) : Res :=
  gd (isb (0 : Int32)) (some ((0 : Int32), m0))
def f_X2_takesDigit  (a0 : Nat) (x1 : Int32) (m0 : Mem) : Res :=
  (if (m0 a0 6) = 0 then
  (if (m0 a0 7) = 0 then
  X2_takesDigit_J46 m0
  else
  (if (m0 a0 7) = (4 : Int32) then
  X2_takesDigit_J46 m0
  else
  (if (m0 a0 1) = 0 then
  X2_takesDigit_J46 m0
  else
  gd (inb ((m0 a0 1) - (1 : Int32)) 60) (
  gd (inb ((m0 a0 1) - (1 : Int32)) 60) (bnd (mset m0 (a0 + 1) ((m0 a0 1) - (1 : Int32)).toNatClampNeg (((m0 (a0 + 1) ((m0 a0 1) - (1 : Int32)).toNatClampNeg) * (10 : Int32)) + x1)) (fun m1 =>
  bnd (mset m1 a0 7 ((m1 a0 7) + (1 : Int32))) (fun m2 =>
  gd (isb (1 : Int32)) (some ((1 : Int32), m2)))))))))
  else
  cal (f_X2_emit a0 x1 m0) (fun r3 m4 =>
  gd (isb (0 : Int32)) (bnd (mset m4 a0 6 (0 : Int32)) (fun m5 =>
  bnd (mset m5 a0 7 (1 : Int32)) (fun m6 =>
  gd (isb (1 : Int32)) (some ((1 : Int32), m6)))))))
set_option maxHeartbeats 2000000 in
theorem s_X2_takesDigit_J46 {K : KT}  (C : Cx K cX2_takesDigit RX2 2 2) (Rr : Rx K (some .boolean))      (m0 : Mem) : G K 46 [] [] m0 (X2_takesDigit_J46 m0) := by
  unfold X2_takesDigit_J46
  refine g_iconst C (0 : Int32) dX2_takesDigit_46 rfl ?_
  exact g_zret C Rr dX2_takesDigit_47
set_option maxHeartbeats 2000000 in
theorem s_X2_takesDigit {K : KT}  (C : Cx K cX2_takesDigit RX2 2 2) (Rr : Rx K (some .boolean))  (a0 : Nat) (x1 : Int32) (h0 : tg a0 = 2) (m0 : Mem) : G K 0 [(0, .ref (kf K a0)), (1, .int x1)] [] m0 (f_X2_takesDigit a0 x1 m0) := by
  unfold f_X2_takesDigit
  refine g_aload_n C dX2_takesDigit_0 0 rfl rfl ?_
  refine g_geti C 6 Fx2 h0 (by decide) rfl rfl q_205 dX2_takesDigit_1 ?_
  refine g_if_eq C 24 dX2_takesDigit_4 (by decide) (fun _ => ?_) (fun _ => ?_)
  · refine g_aload_n C dX2_takesDigit_24 0 rfl rfl ?_
    refine g_geti C 7 Fx2 h0 (by decide) rfl rfl q_206 dX2_takesDigit_25 ?_
    refine g_if_eq C 46 dX2_takesDigit_28 (by decide) (fun _ => ?_) (fun _ => ?_)
    · refine g_sub [] rfl ?_
      exact s_X2_takesDigit_J46 C Rr m0
    · refine g_aload_n C dX2_takesDigit_31 0 rfl rfl ?_
      refine g_geti C 7 Fx2 h0 (by decide) rfl rfl q_206 dX2_takesDigit_32 ?_
      refine g_iconst C (4 : Int32) dX2_takesDigit_35 rfl ?_
      refine g_icmp_eq C 46 dX2_takesDigit_36 (by decide) (fun _ => ?_) (fun _ => ?_)
      · refine g_sub [] rfl ?_
        exact s_X2_takesDigit_J46 C Rr m0
      · refine g_aload_n C dX2_takesDigit_39 0 rfl rfl ?_
        refine g_geti C 1 Fx2 h0 (by decide) rfl rfl q_199 dX2_takesDigit_40 ?_
        refine g_if_ne C 48 dX2_takesDigit_43 (by decide) (fun _ => ?_) (fun _ => ?_)
        · refine g_aload_n C dX2_takesDigit_48 0 rfl rfl ?_
          refine g_getr C 0 1 Fx2 h0 (by decide) rfl rfl q_197 dX2_takesDigit_49 ?_
          refine g_aload_n C dX2_takesDigit_52 0 rfl rfl ?_
          refine g_geti C 1 Fx2 h0 (by decide) rfl rfl q_199 dX2_takesDigit_53 ?_
          refine g_iconst C (1 : Int32) dX2_takesDigit_56 rfl ?_
          refine g_isub C dX2_takesDigit_57 ?_
          refine g_aload_n C dX2_takesDigit_58 0 rfl rfl ?_
          refine g_getr C 0 1 Fx2 h0 (by decide) rfl rfl q_197 dX2_takesDigit_59 ?_
          refine g_aload_n C dX2_takesDigit_62 0 rfl rfl ?_
          refine g_geti C 1 Fx2 h0 (by decide) rfl rfl q_199 dX2_takesDigit_63 ?_
          refine g_iconst C (1 : Int32) dX2_takesDigit_66 rfl ?_
          refine g_isub C dX2_takesDigit_67 ?_
          refine g_iald (n := 60) C (cl_2_0 h0) dX2_takesDigit_68 (fun _ => ?_)
          refine g_bipush C (10 : Int32) dX2_takesDigit_69 rfl ?_
          refine g_imul C dX2_takesDigit_71 ?_
          refine g_iload_n C dX2_takesDigit_72 1 rfl rfl ?_
          refine g_iadd C dX2_takesDigit_73 ?_
          refine g_iast (n := 60) C (cl_2_0 h0) dX2_takesDigit_74 (fun m1 => ?_)
          refine g_aload_n C dX2_takesDigit_75 0 rfl rfl ?_
          refine g_dup C dX2_takesDigit_76 rfl ?_
          refine g_geti C 7 Fx2 h0 (by decide) rfl rfl q_206 dX2_takesDigit_77 ?_
          refine g_iconst C (1 : Int32) dX2_takesDigit_80 rfl ?_
          refine g_iadd C dX2_takesDigit_81 ?_
          refine g_puti C 7 Fx2 h0 (by decide) rfl rfl rfl rfl q_206 dX2_takesDigit_82 (fun m2 => ?_)
          refine g_iconst C (1 : Int32) dX2_takesDigit_85 rfl ?_
          exact g_zret C Rr dX2_takesDigit_86
        · refine g_sub [] rfl ?_
          exact s_X2_takesDigit_J46 C Rr m0
  · refine g_aload_n C dX2_takesDigit_7 0 rfl rfl ?_
    refine g_iload_n C dX2_takesDigit_8 1 rfl rfl ?_
    refine g_callVv C cv_X2_emit (ct_X2_emit a0 x1 h0 m0) q_496 h0 (by decide) rfl rfl (Nat.le_of_ble_eq_true rfl) dX2_takesDigit_9 (fun r3 m4 => ?_)
    refine g_aload_n C dX2_takesDigit_12 0 rfl rfl ?_
    refine g_iconst C (0 : Int32) dX2_takesDigit_13 rfl ?_
    refine g_putZ (k := 6) C Fx2 h0 (by decide) rfl rfl rfl rfl q_205 dX2_takesDigit_14 (fun m5 => ?_)
    refine g_aload_n C dX2_takesDigit_17 0 rfl rfl ?_
    refine g_iconst C (1 : Int32) dX2_takesDigit_18 rfl ?_
    refine g_puti C 7 Fx2 h0 (by decide) rfl rfl rfl rfl q_206 dX2_takesDigit_19 (fun m6 => ?_)
    refine g_iconst C (1 : Int32) dX2_takesDigit_22 rfl ?_
    exact g_zret C Rr dX2_takesDigit_23
theorem ct_X2_takesDigit {Ω : OT} (a0 : Nat) (x1 : Int32) (h0 : tg a0 = 2) (m0 : Mem) : Ct Ω yX2_takesDigit cX2_takesDigit 2 (some .boolean) 2 [.ref (oF Ω a0), .int x1] m0 (f_X2_takesDigit a0 x1 m0) := by
  refine Ct_of (by decide) (Nat.le_of_ble_eq_true rfl) ?_
  intro K hK C Rr
  subst hK
  exact s_X2_takesDigit C Rr  a0 x1 h0 m0
def X2_takes_J76   (xs0 : Int32) (m0 : Mem) : Res :=
  gd (isb xs0) (some (xs0, m0))
def X2_takes_J57   (xs0 : Int32) (m0 : Mem) : Res :=
  gd (isb xs0) (some (xs0, m0))
def X2_takes_J44   (a0 : Nat) (x1 : Int32) (m0 : Mem) : Res :=
  cal (f_X2_opens a0 x1 m0) (fun r1 m2 =>
  X2_takes_J57 r1 m2)
def f_X2_takes  (a0 : Nat) (x1 : Int32) (m0 : Mem) : Res :=
  cal (f_X8_within x1 (48 : Int32) (57 : Int32) m0) (fun r1 m2 =>
  (if r1 = 0 then
  bnd (mset m2 a0 7 (0 : Int32)) (fun m3 =>
  (if (m3 a0 6) = 0 then
  (if x1 = (41 : Int32) then
  cal (f_X2_closes a0 m3) (fun r6 m7 =>
  X2_takes_J76 r6 m7)
  else
  cal (f_X2_takesSign a0 x1 m3) (fun r4 m5 =>
  X2_takes_J76 r4 m5))
  else
  (if x1 = (33 : Int32) then
  X2_takes_J44 a0 x1 m3
  else
  (if x1 = (40 : Int32) then
  X2_takes_J44 a0 x1 m3
  else
  cal (f_X2_takesName a0 x1 m3) (fun r8 m9 =>
  X2_takes_J57 r8 m9)))))
  else
  cal (f_X2_takesDigit a0 (x1 - (48 : Int32)) m2) (fun r10 m11 =>
  gd (isb r10) (some (r10, m11)))))
set_option maxHeartbeats 2000000 in
theorem s_X2_takes_J76 {K : KT}  (C : Cx K cX2_takes RX2 2 11) (Rr : Rx K (some .boolean))    (xs0 : Int32)  (m0 : Mem) : G K 76 [] [.int xs0] m0 (X2_takes_J76 xs0 m0) := by
  unfold X2_takes_J76
  exact g_zret C Rr dX2_takes_76
set_option maxHeartbeats 2000000 in
theorem s_X2_takes_J57 {K : KT}  (C : Cx K cX2_takes RX2 2 11) (Rr : Rx K (some .boolean))    (xs0 : Int32)  (m0 : Mem) : G K 57 [] [.int xs0] m0 (X2_takes_J57 xs0 m0) := by
  unfold X2_takes_J57
  exact g_zret C Rr dX2_takes_57
set_option maxHeartbeats 2000000 in
theorem s_X2_takes_J44 {K : KT}  (C : Cx K cX2_takes RX2 2 11) (Rr : Rx K (some .boolean))    (a0 : Nat) (x1 : Int32) (h0 : tg a0 = 2) (m0 : Mem) : G K 44 [(0, .ref (kf K a0)), (1, .int x1)] [] m0 (X2_takes_J44 a0 x1 m0) := by
  unfold X2_takes_J44
  refine g_aload_n C dX2_takes_44 0 rfl rfl ?_
  refine g_iload_n C dX2_takes_45 1 rfl rfl ?_
  refine g_callVi C cv_X2_opens (ct_X2_opens a0 x1 h0 m0) q_500 h0 (by decide) rfl rfl (Nat.le_of_ble_eq_true rfl) dX2_takes_46 (fun r1 m2 => ?_)
  refine g_goto C 57 dX2_takes_49 (by decide) ?_
  refine g_sub [] rfl ?_
  exact s_X2_takes_J57 C Rr r1 m2
set_option maxHeartbeats 2000000 in
theorem s_X2_takes {K : KT}  (C : Cx K cX2_takes RX2 2 11) (Rr : Rx K (some .boolean))  (a0 : Nat) (x1 : Int32) (h0 : tg a0 = 2) (m0 : Mem) : G K 0 [(0, .ref (kf K a0)), (1, .int x1)] [] m0 (f_X2_takes a0 x1 m0) := by
  unfold f_X2_takes
  refine g_iload_n C dX2_takes_0 1 rfl rfl ?_
  refine g_bipush C (48 : Int32) dX2_takes_1 rfl ?_
  refine g_bipush C (57 : Int32) dX2_takes_3 rfl ?_
  refine g_callNi C cv_X8_within q_342 (ct_X8_within x1 (48 : Int32) (57 : Int32)  m0) (by decide +kernel) (by decide) rfl rfl (Nat.le_of_ble_eq_true rfl) dX2_takes_5 (fun r1 m2 => ?_)
  refine g_if_eq C 20 dX2_takes_8 (by decide) (fun _ => ?_) (fun _ => ?_)
  · refine g_aload_n C dX2_takes_20 0 rfl rfl ?_
    refine g_iconst C (0 : Int32) dX2_takes_21 rfl ?_
    refine g_puti C 7 Fx2 h0 (by decide) rfl rfl rfl rfl q_206 dX2_takes_22 (fun m3 => ?_)
    refine g_aload_n C dX2_takes_25 0 rfl rfl ?_
    refine g_geti C 6 Fx2 h0 (by decide) rfl rfl q_205 dX2_takes_26 ?_
    refine g_if_eq C 58 dX2_takes_29 (by decide) (fun _ => ?_) (fun _ => ?_)
    · refine g_iload_n C dX2_takes_58 1 rfl rfl ?_
      refine g_bipush C (41 : Int32) dX2_takes_59 rfl ?_
      refine g_icmp_ne C 71 dX2_takes_61 (by decide) (fun _ => ?_) (fun _ => ?_)
      · refine g_aload_n C dX2_takes_71 0 rfl rfl ?_
        refine g_iload_n C dX2_takes_72 1 rfl rfl ?_
        refine g_callVi C cv_X2_takesSign (ct_X2_takesSign a0 x1 h0 m3) q_607 h0 (by decide) rfl rfl (Nat.le_of_ble_eq_true rfl) dX2_takes_73 (fun r4 m5 => ?_)
        refine g_sub [] rfl ?_
        exact s_X2_takes_J76 C Rr r4 m5
      · refine g_aload_n C dX2_takes_64 0 rfl rfl ?_
        refine g_callVi C cv_X2_closes (ct_X2_closes a0 h0 m3) q_596 h0 (by decide) rfl rfl (Nat.le_of_ble_eq_true rfl) dX2_takes_65 (fun r6 m7 => ?_)
        refine g_goto C 76 dX2_takes_68 (by decide) ?_
        refine g_sub [] rfl ?_
        exact s_X2_takes_J76 C Rr r6 m7
    · refine g_iload_n C dX2_takes_32 1 rfl rfl ?_
      refine g_bipush C (33 : Int32) dX2_takes_33 rfl ?_
      refine g_icmp_eq C 44 dX2_takes_35 (by decide) (fun _ => ?_) (fun _ => ?_)
      · refine g_sub [0, 1] rfl ?_
        exact s_X2_takes_J44 C Rr a0 x1 h0 m3
      · refine g_iload_n C dX2_takes_38 1 rfl rfl ?_
        refine g_bipush C (40 : Int32) dX2_takes_39 rfl ?_
        refine g_icmp_ne C 52 dX2_takes_41 (by decide) (fun _ => ?_) (fun _ => ?_)
        · refine g_aload_n C dX2_takes_52 0 rfl rfl ?_
          refine g_iload_n C dX2_takes_53 1 rfl rfl ?_
          refine g_callVi C cv_X2_takesName (ct_X2_takesName a0 x1 h0 m3) q_508 h0 (by decide) rfl rfl (Nat.le_of_ble_eq_true rfl) dX2_takes_54 (fun r8 m9 => ?_)
          refine g_sub [] rfl ?_
          exact s_X2_takes_J57 C Rr r8 m9
        · refine g_sub [0, 1] rfl ?_
          exact s_X2_takes_J44 C Rr a0 x1 h0 m3
  · refine g_aload_n C dX2_takes_11 0 rfl rfl ?_
    refine g_iload_n C dX2_takes_12 1 rfl rfl ?_
    refine g_bipush C (48 : Int32) dX2_takes_13 rfl ?_
    refine g_isub C dX2_takes_15 ?_
    refine g_callVi C cv_X2_takesDigit (ct_X2_takesDigit a0 (x1 - (48 : Int32)) h0 m2) q_492 h0 (by decide) rfl rfl (Nat.le_of_ble_eq_true rfl) dX2_takes_16 (fun r10 m11 => ?_)
    exact g_zret C Rr dX2_takes_19
theorem ct_X2_takes {Ω : OT} (a0 : Nat) (x1 : Int32) (h0 : tg a0 = 2) (m0 : Mem) : Ct Ω yX2_takes cX2_takes 2 (some .boolean) 11 [.ref (oF Ω a0), .int x1] m0 (f_X2_takes a0 x1 m0) := by
  refine Ct_of (by decide) (Nat.le_of_ble_eq_true rfl) ?_
  intro K hK C Rr
  subst hK
  exact s_X2_takes C Rr  a0 x1 h0 m0
def X2_faultIn_J88   (x2 : Int32) (m0 : Mem) : Res :=
  some (x2, m0)
def X2_faultIn_L48B  (k48 : Nat → Nat → Nat → Int32 → Int32 → Mem → Res) (a0 : Nat) (a1 n1 : Nat) (x2 : Int32) (x4 : Int32) (m0 : Mem) : Res :=
  (if x2 ≤ x4 then
  (if (m0 a0 6) = 0 then
  (if (m0 a0 5) ≤ 0 then
  cal (f_X2_release a0 (1 : Int32) m0) (fun r1 m2 =>
  some ((-1 : Int32), m2))
  else
  X2_faultIn_J88 x2 m0)
  else
  X2_faultIn_J88 x2 m0)
  else
  gd (inb x4 n1) (
  cal (f_X2_takes a0 (m0 a1 x4.toNatClampNeg) m0) (fun r3 m4 =>
  (if r3 = 0 then
  some (x4, m4)
  else
  bnd (x4 + (1 : Int32)) (fun y5 =>
  k48 a0 a1 n1 x2 y5 m4)))))
def X2_faultIn_L48   : Nat → Nat → Nat → Nat → Int32 → Int32 → Mem → Res
  | 0 => fun _ _ _ _ _ _ => none
  | n + 1 => X2_faultIn_L48B (X2_faultIn_L48 n)
def f_X2_faultIn  (a0 : Nat) (a1 n1 : Nat) (x2 : Int32) (x3 : Int32) (m0 : Mem) : Res :=
  bnd (mset m0 a0 1 (0 : Int32)) (fun m1 =>
  bnd (mset m1 a0 3 (0 : Int32)) (fun m2 =>
  bnd (mset m2 a0 4 (0 : Int32)) (fun m3 =>
  bnd (mset m3 a0 5 (0 : Int32)) (fun m4 =>
  gd (isb (1 : Int32)) (bnd (mset m4 a0 6 (1 : Int32)) (fun m5 =>
  bnd (mset m5 a0 7 (0 : Int32)) (fun m6 =>
  (if x3 = 0 then
  bnd (mset m6 a0 8 (0 : Int32)) (fun m8 =>
  X2_faultIn_L48 FU a0 a1 n1 x2 (0 : Int32) m8)
  else
  bnd (mset m6 a0 8 (1 : Int32)) (fun m7 =>
  X2_faultIn_L48 FU a0 a1 n1 x2 (0 : Int32) m7)))))))))
set_option maxHeartbeats 2000000 in
theorem s_X2_faultIn_J88 {K : KT}  (C : Cx K cX2_faultIn RX2 5 12) (Rr : Rx K (some .int))    (x2 : Int32)  (m0 : Mem) : G K 88 [(2, .int x2)] [] m0 (X2_faultIn_J88 x2 m0) := by
  unfold X2_faultIn_J88
  refine g_iload_n C dX2_faultIn_88 0 rfl rfl ?_
  exact g_iret C Rr dX2_faultIn_89
set_option maxHeartbeats 2000000 in
theorem s_X2_faultIn_L48B {K : KT}  (C : Cx K cX2_faultIn RX2 5 12) (Rr : Rx K (some .int))  {k48 : Nat → Nat → Nat → Int32 → Int32 → Mem → Res} (hk48 : ∀ (a0 : Nat) (a1 n1 : Nat) (x2 : Int32) (x4 : Int32) (h0 : tg a0 = 2) (h1 : tg a1 = 100 + n1) (m0 : Mem), G K 48 [(0, .ref (kf K a0)), (1, .ref (kf K a1)), (2, .int x2), (4, .int x4)] [] m0 (k48 a0 a1 n1 x2 x4 m0)) (a0 : Nat) (a1 n1 : Nat) (x2 : Int32) (x4 : Int32) (h0 : tg a0 = 2) (h1 : tg a1 = 100 + n1) (m0 : Mem) : G K 48 [(0, .ref (kf K a0)), (1, .ref (kf K a1)), (2, .int x2), (4, .int x4)] [] m0 (X2_faultIn_L48B k48 a0 a1 n1 x2 x4 m0) := by
  unfold X2_faultIn_L48B
  refine g_iload C dX2_faultIn_48 3 rfl ?_
  refine g_iload_n C dX2_faultIn_50 2 rfl rfl ?_
  refine g_icmp_ge C 74 dX2_faultIn_51 (by decide) (fun _ => ?_) (fun _ => ?_)
  · refine g_aload_n C dX2_faultIn_74 0 rfl rfl ?_
    refine g_geti C 6 Fx2 h0 (by decide) rfl rfl q_205 dX2_faultIn_75 ?_
    refine g_if_ne C 88 dX2_faultIn_78 (by decide) (fun _ => ?_) (fun _ => ?_)
    · refine g_sub [2] rfl ?_
      exact s_X2_faultIn_J88 C Rr x2 m0
    · refine g_aload_n C dX2_faultIn_81 0 rfl rfl ?_
      refine g_geti C 5 Fx2 h0 (by decide) rfl rfl q_204 dX2_faultIn_82 ?_
      refine g_if_le C 90 dX2_faultIn_85 (by decide) (fun _ => ?_) (fun _ => ?_)
      · refine g_aload_n C dX2_faultIn_90 0 rfl rfl ?_
        refine g_iconst C (1 : Int32) dX2_faultIn_91 rfl ?_
        refine g_callVv C cv_X2_release (ct_X2_release a0 (1 : Int32) h0 m0) q_600 h0 (by decide) rfl rfl (Nat.le_of_ble_eq_true rfl) dX2_faultIn_92 (fun r1 m2 => ?_)
        refine g_iconst C (-1 : Int32) dX2_faultIn_95 rfl ?_
        exact g_iret C Rr dX2_faultIn_96
      · refine g_sub [2] rfl ?_
        exact s_X2_faultIn_J88 C Rr x2 m0
  · refine g_aload_n C dX2_faultIn_54 0 rfl rfl ?_
    refine g_aload_n C dX2_faultIn_55 1 rfl rfl ?_
    refine g_iload C dX2_faultIn_56 3 rfl ?_
    refine g_iald (n := n1) C h1 dX2_faultIn_58 (fun _ => ?_)
    refine g_callVi C cv_X2_takes (ct_X2_takes a0 (m0 a1 x4.toNatClampNeg) h0 m0) q_487 h0 (by decide) rfl rfl (Nat.le_of_ble_eq_true rfl) dX2_faultIn_59 (fun r3 m4 => ?_)
    refine g_if_ne C 68 dX2_faultIn_62 (by decide) (fun _ => ?_) (fun _ => ?_)
    · refine g_iinc (k := 3) C dX2_faultIn_68 rfl (w := (1 : Int32)) rfl (by decide) (fun v_ => [(4, .int v_), (0, .ref (kf K a0)), (1, .ref (kf K a1)), (2, .int x2)]) (fun _ => rfl) (fun y5 => ?_)
      refine g_goto C 48 dX2_faultIn_71 (by decide) ?_
      refine g_sub [1, 2, 3, 0] rfl ?_
      exact hk48 a0 a1 n1 x2 y5 h0 h1 m4
    · refine g_iload C dX2_faultIn_65 3 rfl ?_
      exact g_iret C Rr dX2_faultIn_67
theorem s_X2_faultIn_L48 {K : KT}  (C : Cx K cX2_faultIn RX2 5 12) (Rr : Rx K (some .int))    : ∀ (n : Nat) (a0 : Nat) (a1 n1 : Nat) (x2 : Int32) (x4 : Int32) (h0 : tg a0 = 2) (h1 : tg a1 = 100 + n1) (m0 : Mem), G K 48 [(0, .ref (kf K a0)), (1, .ref (kf K a1)), (2, .int x2), (4, .int x4)] [] m0 (X2_faultIn_L48 n a0 a1 n1 x2 x4 m0) := by
  intro n
  induction n with
  | zero => intros; exact g_none
  | succ n ih =>
    intro a0 a1 n1 x2 x4 h0 h1 m0
    exact s_X2_faultIn_L48B C Rr  ih a0 a1 n1 x2 x4 h0 h1 m0
set_option maxHeartbeats 2000000 in
theorem s_X2_faultIn {K : KT}  (C : Cx K cX2_faultIn RX2 5 12) (Rr : Rx K (some .int))  (a0 : Nat) (a1 n1 : Nat) (x2 : Int32) (x3 : Int32) (h0 : tg a0 = 2) (h1 : tg a1 = 100 + n1) (m0 : Mem) : G K 0 [(0, .ref (kf K a0)), (1, .ref (kf K a1)), (2, .int x2), (3, .int x3)] [] m0 (f_X2_faultIn a0 a1 n1 x2 x3 m0) := by
  unfold f_X2_faultIn
  refine g_aload_n C dX2_faultIn_0 0 rfl rfl ?_
  refine g_iconst C (0 : Int32) dX2_faultIn_1 rfl ?_
  refine g_puti C 1 Fx2 h0 (by decide) rfl rfl rfl rfl q_199 dX2_faultIn_2 (fun m1 => ?_)
  refine g_aload_n C dX2_faultIn_5 0 rfl rfl ?_
  refine g_iconst C (0 : Int32) dX2_faultIn_6 rfl ?_
  refine g_puti C 3 Fx2 h0 (by decide) rfl rfl rfl rfl q_202 dX2_faultIn_7 (fun m2 => ?_)
  refine g_aload_n C dX2_faultIn_10 0 rfl rfl ?_
  refine g_iconst C (0 : Int32) dX2_faultIn_11 rfl ?_
  refine g_puti C 4 Fx2 h0 (by decide) rfl rfl rfl rfl q_203 dX2_faultIn_12 (fun m3 => ?_)
  refine g_aload_n C dX2_faultIn_15 0 rfl rfl ?_
  refine g_iconst C (0 : Int32) dX2_faultIn_16 rfl ?_
  refine g_puti C 5 Fx2 h0 (by decide) rfl rfl rfl rfl q_204 dX2_faultIn_17 (fun m4 => ?_)
  refine g_aload_n C dX2_faultIn_20 0 rfl rfl ?_
  refine g_iconst C (1 : Int32) dX2_faultIn_21 rfl ?_
  refine g_putZ (k := 6) C Fx2 h0 (by decide) rfl rfl rfl rfl q_205 dX2_faultIn_22 (fun m5 => ?_)
  refine g_aload_n C dX2_faultIn_25 0 rfl rfl ?_
  refine g_iconst C (0 : Int32) dX2_faultIn_26 rfl ?_
  refine g_puti C 7 Fx2 h0 (by decide) rfl rfl rfl rfl q_206 dX2_faultIn_27 (fun m6 => ?_)
  refine g_aload_n C dX2_faultIn_30 0 rfl rfl ?_
  refine g_iload_n C dX2_faultIn_31 3 rfl rfl ?_
  refine g_if_ne C 40 dX2_faultIn_32 (by decide) (fun _ => ?_) (fun _ => ?_)
  · refine g_str (k := 3) C (by decide) dX2_faultIn_40 ?_
    refine g_put (k := 8) (x := (1 : Int32)) C Fx2 h0 (by decide) (fv_str3 rfl) rfl rfl rfl rfl q_207 dX2_faultIn_42 (fun m7 => ?_)
    refine g_iconst C (0 : Int32) dX2_faultIn_45 rfl ?_
    refine g_istore C dX2_faultIn_46 (by decide) rfl ?_
    refine g_sub [1, 2, 3, 0] rfl ?_
    exact s_X2_faultIn_L48 C Rr FU a0 a1 n1 x2 (0 : Int32) h0 h1 m7
  · refine g_str (k := 2) C (by decide) dX2_faultIn_35 ?_
    refine g_goto C 42 dX2_faultIn_37 (by decide) ?_
    refine g_put (k := 8) (x := (0 : Int32)) C Fx2 h0 (by decide) (fv_str2 rfl) rfl rfl rfl rfl q_207 dX2_faultIn_42 (fun m8 => ?_)
    refine g_iconst C (0 : Int32) dX2_faultIn_45 rfl ?_
    refine g_istore C dX2_faultIn_46 (by decide) rfl ?_
    refine g_sub [1, 2, 3, 0] rfl ?_
    exact s_X2_faultIn_L48 C Rr FU a0 a1 n1 x2 (0 : Int32) h0 h1 m8
theorem ct_X2_faultIn {Ω : OT} (a0 : Nat) (a1 n1 : Nat) (x2 : Int32) (x3 : Int32) (h0 : tg a0 = 2) (h1 : tg a1 = 100 + n1) (m0 : Mem) : Ct Ω yX2_faultIn cX2_faultIn 5 (some .int) 12 [.ref (oF Ω a0), .ref (oF Ω a1), .int x2, .int x3] m0 (f_X2_faultIn a0 a1 n1 x2 x3 m0) := by
  refine Ct_of (by decide) (Nat.le_of_ble_eq_true rfl) ?_
  intro K hK C Rr
  subst hK
  exact s_X2_faultIn C Rr  a0 a1 n1 x2 x3 h0 h1 m0
def f_X7_hasCustomer  (a0 : Nat) (x1 : Int32) (m0 : Mem) : Res :=
  cal (f_X8_within x1 (0 : Int32) ((m0 a0 6) - (1 : Int32)) m0) (fun r1 m2 =>
  gd (isb r1) (some (r1, m2)))
set_option maxHeartbeats 2000000 in
theorem s_X7_hasCustomer {K : KT}  (C : Cx K cX7_hasCustomer RX7 2 2) (Rr : Rx K (some .boolean))  (a0 : Nat) (x1 : Int32) (h0 : tg a0 = 7) (m0 : Mem) : G K 0 [(0, .ref (kf K a0)), (1, .int x1)] [] m0 (f_X7_hasCustomer a0 x1 m0) := by
  unfold f_X7_hasCustomer
  refine g_iload_n C dX7_hasCustomer_0 1 rfl rfl ?_
  refine g_iconst C (0 : Int32) dX7_hasCustomer_1 rfl ?_
  refine g_aload_n C dX7_hasCustomer_2 0 rfl rfl ?_
  refine g_geti C 6 Fx7 h0 (by decide) rfl rfl q_139 dX7_hasCustomer_3 ?_
  refine g_iconst C (1 : Int32) dX7_hasCustomer_6 rfl ?_
  refine g_isub C dX7_hasCustomer_7 ?_
  refine g_callNi C cv_X8_within q_342 (ct_X8_within x1 (0 : Int32) ((m0 a0 6) - (1 : Int32))  m0) (by decide +kernel) (by decide) rfl rfl (Nat.le_of_ble_eq_true rfl) dX7_hasCustomer_8 (fun r1 m2 => ?_)
  exact g_zret C Rr dX7_hasCustomer_11
theorem ct_X7_hasCustomer {Ω : OT} (a0 : Nat) (x1 : Int32) (h0 : tg a0 = 7) (m0 : Mem) : Ct Ω yX7_hasCustomer cX7_hasCustomer 2 (some .boolean) 2 [.ref (oF Ω a0), .int x1] m0 (f_X7_hasCustomer a0 x1 m0) := by
  refine Ct_of (by decide) (Nat.le_of_ble_eq_true rfl) ?_
  intro K hK C Rr
  subst hK
  exact s_X7_hasCustomer C Rr  a0 x1 h0 m0
def X7_placeOf_J34   (xs0 : Int32) (m0 : Mem) : Res :=
  some (xs0, m0)
def X7_placeOf_J17   (a0 : Nat) (x1 : Int32) (xs0 : Int32) (m0 : Mem) : Res :=
  (if x1 = 0 then
  X7_placeOf_J34 xs0 m0
  else
  X7_placeOf_J34 (((m0 a0 4) - (1 : Int32)) - xs0) m0)
def f_X7_placeOf  (a0 : Nat) (x1 : Int32) (x2 : Int32) (m0 : Mem) : Res :=
  (if (m0 a0 4) = 0 then
  X7_placeOf_J17 a0 x1 (0 : Int32) m0
  else
  gd (!((m0 a0 4) == 0)) (
  X7_placeOf_J17 a0 x1 (irm x2 (m0 a0 4)) m0))
set_option maxHeartbeats 2000000 in
theorem s_X7_placeOf_J34 {K : KT}  (C : Cx K cX7_placeOf RX7 4 1) (Rr : Rx K (some .int))    (xs0 : Int32)  (m0 : Mem) : G K 34 [] [.int xs0] m0 (X7_placeOf_J34 xs0 m0) := by
  unfold X7_placeOf_J34
  exact g_iret C Rr dX7_placeOf_34
set_option maxHeartbeats 2000000 in
theorem s_X7_placeOf_J17 {K : KT}  (C : Cx K cX7_placeOf RX7 4 1) (Rr : Rx K (some .int))    (a0 : Nat) (x1 : Int32) (xs0 : Int32) (h0 : tg a0 = 7) (m0 : Mem) : G K 17 [(0, .ref (kf K a0)), (1, .int x1)] [.int xs0] m0 (X7_placeOf_J17 a0 x1 xs0 m0) := by
  unfold X7_placeOf_J17
  refine g_istore_n C dX7_placeOf_17 rfl (by decide) rfl ?_
  refine g_iload_n C dX7_placeOf_18 2 rfl rfl ?_
  refine g_if_ne C 26 dX7_placeOf_19 (by decide) (fun _ => ?_) (fun _ => ?_)
  · refine g_aload_n C dX7_placeOf_26 1 rfl rfl ?_
    refine g_geti C 4 Fx7 h0 (by decide) rfl rfl q_134 dX7_placeOf_27 ?_
    refine g_iconst C (1 : Int32) dX7_placeOf_30 rfl ?_
    refine g_isub C dX7_placeOf_31 ?_
    refine g_iload_n C dX7_placeOf_32 0 rfl rfl ?_
    refine g_isub C dX7_placeOf_33 ?_
    refine g_sub [] rfl ?_
    exact s_X7_placeOf_J34 C Rr (((m0 a0 4) - (1 : Int32)) - xs0) m0
  · refine g_iload_n C dX7_placeOf_22 0 rfl rfl ?_
    refine g_goto C 34 dX7_placeOf_23 (by decide) ?_
    refine g_sub [] rfl ?_
    exact s_X7_placeOf_J34 C Rr xs0 m0
set_option maxHeartbeats 2000000 in
theorem s_X7_placeOf {K : KT}  (C : Cx K cX7_placeOf RX7 4 1) (Rr : Rx K (some .int))  (a0 : Nat) (x1 : Int32) (x2 : Int32) (h0 : tg a0 = 7) (m0 : Mem) : G K 0 [(0, .ref (kf K a0)), (1, .int x1), (2, .int x2)] [] m0 (f_X7_placeOf a0 x1 x2 m0) := by
  unfold f_X7_placeOf
  refine g_aload_n C dX7_placeOf_0 0 rfl rfl ?_
  refine g_geti C 4 Fx7 h0 (by decide) rfl rfl q_134 dX7_placeOf_1 ?_
  refine g_if_ne C 11 dX7_placeOf_4 (by decide) (fun _ => ?_) (fun _ => ?_)
  · refine g_iload_n C dX7_placeOf_11 2 rfl rfl ?_
    refine g_aload_n C dX7_placeOf_12 0 rfl rfl ?_
    refine g_geti C 4 Fx7 h0 (by decide) rfl rfl q_134 dX7_placeOf_13 ?_
    refine g_irem C dX7_placeOf_16 (fun _ => ?_)
    refine g_sub [0, 1] rfl ?_
    exact s_X7_placeOf_J17 C Rr a0 x1 (irm x2 (m0 a0 4)) h0 m0
  · refine g_iconst C (0 : Int32) dX7_placeOf_7 rfl ?_
    refine g_goto C 17 dX7_placeOf_8 (by decide) ?_
    refine g_sub [0, 1] rfl ?_
    exact s_X7_placeOf_J17 C Rr a0 x1 (0 : Int32) h0 m0
theorem ct_X7_placeOf {Ω : OT} (a0 : Nat) (x1 : Int32) (x2 : Int32) (h0 : tg a0 = 7) (m0 : Mem) : Ct Ω yX7_placeOf cX7_placeOf 4 (some .int) 1 [.ref (oF Ω a0), .int x1, .int x2] m0 (f_X7_placeOf a0 x1 x2 m0) := by
  refine Ct_of (by decide) (Nat.le_of_ble_eq_true rfl) ?_
  intro K hK C Rr
  subst hK
  exact s_X7_placeOf C Rr  a0 x1 x2 h0 m0
def X7_leftOf_J26   (xs0 : Int32) (m0 : Mem) : Res :=
  some (xs0, m0)
def f_X7_leftOf  (a0 : Nat) (x1 : Int32) (m0 : Mem) : Res :=
  (if x1 ≤ 0 then
  (if (m0 a0 1) = (1 : Int32) then
  X7_leftOf_J26 ((m0 a0 4) - (1 : Int32)) m0
  else
  X7_leftOf_J26 (-1 : Int32) m0)
  else
  some (x1 - (1 : Int32), m0))
set_option maxHeartbeats 2000000 in
theorem s_X7_leftOf_J26 {K : KT}  (C : Cx K cX7_leftOf RX7 2 1) (Rr : Rx K (some .int))    (xs0 : Int32)  (m0 : Mem) : G K 26 [] [.int xs0] m0 (X7_leftOf_J26 xs0 m0) := by
  unfold X7_leftOf_J26
  exact g_iret C Rr dX7_leftOf_26
set_option maxHeartbeats 2000000 in
theorem s_X7_leftOf {K : KT}  (C : Cx K cX7_leftOf RX7 2 1) (Rr : Rx K (some .int))  (a0 : Nat) (x1 : Int32) (h0 : tg a0 = 7) (m0 : Mem) : G K 0 [(0, .ref (kf K a0)), (1, .int x1)] [] m0 (f_X7_leftOf a0 x1 m0) := by
  unfold f_X7_leftOf
  refine g_iload_n C dX7_leftOf_0 1 rfl rfl ?_
  refine g_if_le C 8 dX7_leftOf_1 (by decide) (fun _ => ?_) (fun _ => ?_)
  · refine g_aload_n C dX7_leftOf_8 0 rfl rfl ?_
    refine g_geti C 1 Fx7 h0 (by decide) rfl rfl q_127 dX7_leftOf_9 ?_
    refine g_iconst C (1 : Int32) dX7_leftOf_12 rfl ?_
    refine g_icmp_ne C 25 dX7_leftOf_13 (by decide) (fun _ => ?_) (fun _ => ?_)
    · refine g_iconst C (-1 : Int32) dX7_leftOf_25 rfl ?_
      refine g_sub [] rfl ?_
      exact s_X7_leftOf_J26 C Rr (-1 : Int32) m0
    · refine g_aload_n C dX7_leftOf_16 0 rfl rfl ?_
      refine g_geti C 4 Fx7 h0 (by decide) rfl rfl q_134 dX7_leftOf_17 ?_
      refine g_iconst C (1 : Int32) dX7_leftOf_20 rfl ?_
      refine g_isub C dX7_leftOf_21 ?_
      refine g_goto C 26 dX7_leftOf_22 (by decide) ?_
      refine g_sub [] rfl ?_
      exact s_X7_leftOf_J26 C Rr ((m0 a0 4) - (1 : Int32)) m0
  · refine g_iload_n C dX7_leftOf_4 1 rfl rfl ?_
    refine g_iconst C (1 : Int32) dX7_leftOf_5 rfl ?_
    refine g_isub C dX7_leftOf_6 ?_
    exact g_iret C Rr dX7_leftOf_7
theorem ct_X7_leftOf {Ω : OT} (a0 : Nat) (x1 : Int32) (h0 : tg a0 = 7) (m0 : Mem) : Ct Ω yX7_leftOf cX7_leftOf 2 (some .int) 1 [.ref (oF Ω a0), .int x1] m0 (f_X7_leftOf a0 x1 m0) := by
  refine Ct_of (by decide) (Nat.le_of_ble_eq_true rfl) ?_
  intro K hK C Rr
  subst hK
  exact s_X7_leftOf C Rr  a0 x1 h0 m0
def X7_stockOf_J19   (xs0 : Int32) (m0 : Mem) : Res :=
  some (xs0, m0)
def f_X7_stockOf  (a0 : Nat) (x1 : Int32) (x2 : Int32) (m0 : Mem) : Res :=
  (if 0 ≤ x1 then
  gd (inb x1 6) (
  gd (inb x2 6) (
  X7_stockOf_J19 (m0 (((a0 + 2) + 5 + 3 * x1.toNatClampNeg) + 2) x2.toNatClampNeg) m0))
  else
  X7_stockOf_J19 (0 : Int32) m0)
set_option maxHeartbeats 2000000 in
theorem s_X7_stockOf_J19 {K : KT}  (C : Cx K cX7_stockOf RX7 3 1) (Rr : Rx K (some .int))    (xs0 : Int32)  (m0 : Mem) : G K 19 [] [.int xs0] m0 (X7_stockOf_J19 xs0 m0) := by
  unfold X7_stockOf_J19
  exact g_iret C Rr dX7_stockOf_19
set_option maxHeartbeats 2000000 in
theorem s_X7_stockOf {K : KT}  (C : Cx K cX7_stockOf RX7 3 1) (Rr : Rx K (some .int))  (a0 : Nat) (x1 : Int32) (x2 : Int32) (h0 : tg a0 = 7) (m0 : Mem) : G K 0 [(0, .ref (kf K a0)), (1, .int x1), (2, .int x2)] [] m0 (f_X7_stockOf a0 x1 x2 m0) := by
  unfold f_X7_stockOf
  refine g_iload_n C dX7_stockOf_0 1 rfl rfl ?_
  refine g_if_ge C 8 dX7_stockOf_1 (by decide) (fun _ => ?_) (fun _ => ?_)
  · refine g_aload_n C dX7_stockOf_8 0 rfl rfl ?_
    refine g_getr C 3 2 Fx7 h0 (by decide) rfl rfl q_131 dX7_stockOf_9 ?_
    refine g_iload_n C dX7_stockOf_12 1 rfl rfl ?_
    refine g_aald10 C (cl_7_3 h0) dX7_stockOf_13 (fun g1 => ?_)
    refine g_getr C 4 2 Fx5 (ca_10 (cl_7_3 h0) g1) (by decide) rfl rfl q_63 dX7_stockOf_14 ?_
    refine g_iload_n C dX7_stockOf_17 2 rfl rfl ?_
    refine g_iald (n := 6) C (cl_5_4 (ca_10 (cl_7_3 h0) g1)) dX7_stockOf_18 (fun _ => ?_)
    refine g_sub [] rfl ?_
    exact s_X7_stockOf_J19 C Rr (m0 (((a0 + 2) + 5 + 3 * x1.toNatClampNeg) + 2) x2.toNatClampNeg) m0
  · refine g_iconst C (0 : Int32) dX7_stockOf_4 rfl ?_
    refine g_goto C 19 dX7_stockOf_5 (by decide) ?_
    refine g_sub [] rfl ?_
    exact s_X7_stockOf_J19 C Rr (0 : Int32) m0
theorem ct_X7_stockOf {Ω : OT} (a0 : Nat) (x1 : Int32) (x2 : Int32) (h0 : tg a0 = 7) (m0 : Mem) : Ct Ω yX7_stockOf cX7_stockOf 3 (some .int) 1 [.ref (oF Ω a0), .int x1, .int x2] m0 (f_X7_stockOf a0 x1 x2 m0) := by
  refine Ct_of (by decide) (Nat.le_of_ble_eq_true rfl) ?_
  intro K hK C Rr
  subst hK
  exact s_X7_stockOf C Rr  a0 x1 x2 h0 m0
def X7_maySell_J29    (m0 : Mem) : Res :=
  gd (isb (0 : Int32)) (some ((0 : Int32), m0))
def X7_maySell_J93   (xs0 : Int32) (m0 : Mem) : Res :=
  gd (isb xs0) (some (xs0, m0))
def X7_maySell_J88    (m0 : Mem) : Res :=
  X7_maySell_J93 (1 : Int32) m0
def X7_maySell_J63   (xs0 : Int32) (m0 : Mem) : Res :=
  gd (isb xs0) (some (xs0, m0))
def f_X7_maySell  (a0 : Nat) (x1 : Int32) (x2 : Int32) (m0 : Mem) : Res :=
  cal (f_X7_leftOf a0 x1 m0) (fun r1 m2 =>
  gd (inb x1 6) (
  gd (inb x2 6) (
  (if (m2 (((a0 + 2) + 5 + 3 * x1.toNatClampNeg) + 2) x2.toNatClampNeg) = 0 then
  X7_maySell_J29 m2
  else
  cal (f_X7_stockOf a0 r1 x2 m2) (fun r4 m5 =>
  (if r4 ≤ 0 then
  (if 0 ≤ r1 then
  (if (m5 a0 2) = (1 : Int32) then
  cal (f_X7_leftOf a0 r1 m5) (fun r7 m8 =>
  cal (f_X7_stockOf a0 r7 x2 m8) (fun r9 m10 =>
  (if r9 = 0 then
  X7_maySell_J63 (1 : Int32) m10
  else
  X7_maySell_J63 (0 : Int32) m10)))
  else
  (if (m5 a0 2) = (2 : Int32) then
  gd (inb r1 6) (
  (if ((isr (m5 ((a0 + 2) + 5 + 3 * r1.toNatClampNeg) 5) x2) &&& (1 : Int32)) = 0 then
  X7_maySell_J88 m5
  else
  X7_maySell_J93 (0 : Int32) m5))
  else
  X7_maySell_J88 m5))
  else
  gd (isb (1 : Int32)) (some ((1 : Int32), m5)))
  else
  X7_maySell_J29 m5))))))
set_option maxHeartbeats 2000000 in
theorem s_X7_maySell_J29 {K : KT}  (C : Cx K cX7_maySell RX7 4 2) (Rr : Rx K (some .boolean))      (m0 : Mem) : G K 29 [] [] m0 (X7_maySell_J29 m0) := by
  unfold X7_maySell_J29
  refine g_iconst C (0 : Int32) dX7_maySell_29 rfl ?_
  exact g_zret C Rr dX7_maySell_30
set_option maxHeartbeats 2000000 in
theorem s_X7_maySell_J93 {K : KT}  (C : Cx K cX7_maySell RX7 4 2) (Rr : Rx K (some .boolean))    (xs0 : Int32)  (m0 : Mem) : G K 93 [] [.int xs0] m0 (X7_maySell_J93 xs0 m0) := by
  unfold X7_maySell_J93
  exact g_zret C Rr dX7_maySell_93
set_option maxHeartbeats 2000000 in
theorem s_X7_maySell_J88 {K : KT}  (C : Cx K cX7_maySell RX7 4 2) (Rr : Rx K (some .boolean))      (m0 : Mem) : G K 88 [] [] m0 (X7_maySell_J88 m0) := by
  unfold X7_maySell_J88
  refine g_iconst C (1 : Int32) dX7_maySell_88 rfl ?_
  refine g_goto C 93 dX7_maySell_89 (by decide) ?_
  refine g_sub [] rfl ?_
  exact s_X7_maySell_J93 C Rr (1 : Int32) m0
set_option maxHeartbeats 2000000 in
theorem s_X7_maySell_J63 {K : KT}  (C : Cx K cX7_maySell RX7 4 2) (Rr : Rx K (some .boolean))    (xs0 : Int32)  (m0 : Mem) : G K 63 [] [.int xs0] m0 (X7_maySell_J63 xs0 m0) := by
  unfold X7_maySell_J63
  exact g_zret C Rr dX7_maySell_63
set_option maxHeartbeats 2000000 in
theorem s_X7_maySell {K : KT}  (C : Cx K cX7_maySell RX7 4 2) (Rr : Rx K (some .boolean))  (a0 : Nat) (x1 : Int32) (x2 : Int32) (h0 : tg a0 = 7) (m0 : Mem) : G K 0 [(0, .ref (kf K a0)), (1, .int x1), (2, .int x2)] [] m0 (f_X7_maySell a0 x1 x2 m0) := by
  unfold f_X7_maySell
  refine g_aload_n C dX7_maySell_0 0 rfl rfl ?_
  refine g_iload_n C dX7_maySell_1 1 rfl rfl ?_
  refine g_callVi C cv_X7_leftOf (ct_X7_leftOf a0 x1 h0 m0) q_383 h0 (by decide) rfl rfl (Nat.le_of_ble_eq_true rfl) dX7_maySell_2 (fun r1 m2 => ?_)
  refine g_istore_n C dX7_maySell_5 rfl (by decide) rfl ?_
  refine g_aload_n C dX7_maySell_6 1 rfl rfl ?_
  refine g_getr C 3 2 Fx7 h0 (by decide) rfl rfl q_131 dX7_maySell_7 ?_
  refine g_iload_n C dX7_maySell_10 2 rfl rfl ?_
  refine g_aald10 C (cl_7_3 h0) dX7_maySell_11 (fun g3 => ?_)
  refine g_getr C 4 2 Fx5 (ca_10 (cl_7_3 h0) g3) (by decide) rfl rfl q_63 dX7_maySell_12 ?_
  refine g_iload_n C dX7_maySell_15 3 rfl rfl ?_
  refine g_iald (n := 6) C (cl_5_4 (ca_10 (cl_7_3 h0) g3)) dX7_maySell_16 (fun _ => ?_)
  refine g_if_eq C 29 dX7_maySell_17 (by decide) (fun _ => ?_) (fun _ => ?_)
  · refine g_sub [] rfl ?_
    exact s_X7_maySell_J29 C Rr m2
  · refine g_aload_n C dX7_maySell_20 1 rfl rfl ?_
    refine g_iload_n C dX7_maySell_21 0 rfl rfl ?_
    refine g_iload_n C dX7_maySell_22 3 rfl rfl ?_
    refine g_callVi C cv_X7_stockOf (ct_X7_stockOf a0 r1 x2 h0 m2) q_387 h0 (by decide) rfl rfl (Nat.le_of_ble_eq_true rfl) dX7_maySell_23 (fun r4 m5 => ?_)
    refine g_if_le C 31 dX7_maySell_26 (by decide) (fun _ => ?_) (fun _ => ?_)
    · refine g_iload_n C dX7_maySell_31 0 rfl rfl ?_
      refine g_if_ge C 37 dX7_maySell_32 (by decide) (fun _ => ?_) (fun _ => ?_)
      · refine g_aload_n C dX7_maySell_37 1 rfl rfl ?_
        refine g_geti C 2 Fx7 h0 (by decide) rfl rfl q_129 dX7_maySell_38 ?_
        refine g_iconst C (1 : Int32) dX7_maySell_41 rfl ?_
        refine g_icmp_ne C 64 dX7_maySell_42 (by decide) (fun _ => ?_) (fun _ => ?_)
        · refine g_aload_n C dX7_maySell_64 1 rfl rfl ?_
          refine g_geti C 2 Fx7 h0 (by decide) rfl rfl q_129 dX7_maySell_65 ?_
          refine g_iconst C (2 : Int32) dX7_maySell_68 rfl ?_
          refine g_icmp_ne C 88 dX7_maySell_69 (by decide) (fun _ => ?_) (fun _ => ?_)
          · refine g_sub [] rfl ?_
            exact s_X7_maySell_J88 C Rr m5
          · refine g_aload_n C dX7_maySell_72 1 rfl rfl ?_
            refine g_getr C 3 2 Fx7 h0 (by decide) rfl rfl q_131 dX7_maySell_73 ?_
            refine g_iload_n C dX7_maySell_76 0 rfl rfl ?_
            refine g_aald10 C (cl_7_3 h0) dX7_maySell_77 (fun g6 => ?_)
            refine g_geti C 5 Fx5 (ca_10 (cl_7_3 h0) g6) (by decide) rfl rfl q_66 dX7_maySell_78 ?_
            refine g_iload_n C dX7_maySell_81 3 rfl rfl ?_
            refine g_ishr C dX7_maySell_82 ?_
            refine g_iconst C (1 : Int32) dX7_maySell_83 rfl ?_
            refine g_iand C dX7_maySell_84 ?_
            refine g_if_ne C 92 dX7_maySell_85 (by decide) (fun _ => ?_) (fun _ => ?_)
            · refine g_iconst C (0 : Int32) dX7_maySell_92 rfl ?_
              refine g_sub [] rfl ?_
              exact s_X7_maySell_J93 C Rr (0 : Int32) m5
            · refine g_sub [] rfl ?_
              exact s_X7_maySell_J88 C Rr m5
        · refine g_aload_n C dX7_maySell_45 1 rfl rfl ?_
          refine g_aload_n C dX7_maySell_46 1 rfl rfl ?_
          refine g_iload_n C dX7_maySell_47 0 rfl rfl ?_
          refine g_callVi C cv_X7_leftOf (ct_X7_leftOf a0 r1 h0 m5) q_383 h0 (by decide) rfl rfl (Nat.le_of_ble_eq_true rfl) dX7_maySell_48 (fun r7 m8 => ?_)
          refine g_iload_n C dX7_maySell_51 3 rfl rfl ?_
          refine g_callVi C cv_X7_stockOf (ct_X7_stockOf a0 r7 x2 h0 m8) q_387 h0 (by decide) rfl rfl (Nat.le_of_ble_eq_true rfl) dX7_maySell_52 (fun r9 m10 => ?_)
          refine g_if_ne C 62 dX7_maySell_55 (by decide) (fun _ => ?_) (fun _ => ?_)
          · refine g_iconst C (0 : Int32) dX7_maySell_62 rfl ?_
            refine g_sub [] rfl ?_
            exact s_X7_maySell_J63 C Rr (0 : Int32) m10
          · refine g_iconst C (1 : Int32) dX7_maySell_58 rfl ?_
            refine g_goto C 63 dX7_maySell_59 (by decide) ?_
            refine g_sub [] rfl ?_
            exact s_X7_maySell_J63 C Rr (1 : Int32) m10
      · refine g_iconst C (1 : Int32) dX7_maySell_35 rfl ?_
        exact g_zret C Rr dX7_maySell_36
    · refine g_sub [] rfl ?_
      exact s_X7_maySell_J29 C Rr m5
theorem ct_X7_maySell {Ω : OT} (a0 : Nat) (x1 : Int32) (x2 : Int32) (h0 : tg a0 = 7) (m0 : Mem) : Ct Ω yX7_maySell cX7_maySell 4 (some .boolean) 2 [.ref (oF Ω a0), .int x1, .int x2] m0 (f_X7_maySell a0 x1 x2 m0) := by
  refine Ct_of (by decide) (Nat.le_of_ble_eq_true rfl) ?_
  intro K hK C Rr
  subst hK
  exact s_X7_maySell C Rr  a0 x1 x2 h0 m0
