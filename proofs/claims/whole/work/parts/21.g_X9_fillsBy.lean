def X9_fillsBy_J120 (R : Nat → Int32 → Int32 → Mem → Res)  (a0 : Nat) (x1 : Int32) (x2 : Int32) (m0 : Mem) : Res :=
  cal (f_X9_above x1 m0) (fun r1 m2 =>
  cal (R a0 r1 x2 m2) (fun r3 m4 =>
  some (r3, m4)))
def f_X9_fillsBy_B (R : Nat → Int32 → Int32 → Mem → Res) (a0 : Nat) (x1 : Int32) (x2 : Int32) (m0 : Mem) : Res :=
  (if x1 = (0 : Int32) then
  cal (f_X9_begins a0 (11 : Int32) m0) (fun r1 m2 =>
  cal (f_X9_kindNow a0 m2) (fun r3 m4 =>
  cal (f_X9_sellsBy RF a0 r3 x2 m4) (fun r5 m6 =>
  some (r5 * (2 : Int32), m6))))
  else
  if x1 = (1 : Int32) then
  X9_fillsBy_J120 R a0 x1 x2 m0
  else
  if x1 = (2 : Int32) then
  cal (f_X9_begins a0 (30 : Int32) m0) (fun r9 m10 =>
  cal (f_X9_above (2 : Int32) m10) (fun r11 m12 =>
  cal (R a0 r11 x2 m12) (fun r13 m14 =>
  some ((0 : Int32) - r13, m14))))
  else
  if x1 = (3 : Int32) then
  X9_fillsBy_J120 R a0 x1 x2 m0
  else
  if x1 = (4 : Int32) then
  X9_fillsBy_J120 R a0 x1 x2 m0
  else
  if x1 = (5 : Int32) then
  cal (f_X9_begins a0 (60 : Int32) m0) (fun r18 m19 =>
  cal (f_X9_above (5 : Int32) m19) (fun r20 m21 =>
  cal (R a0 r20 (x2 + (1 : Int32)) m21) (fun r22 m23 =>
  some (r22, m23))))
  else
  if x1 = (6 : Int32) then
  cal (f_X9_begins a0 (71 : Int32) m0) (fun r25 m26 =>
  cal (f_X9_above (6 : Int32) m26) (fun r27 m28 =>
  cal (R a0 r27 x2 m28) (fun r29 m30 =>
  cal (f_X9_mNow a0 m30) (fun r31 m32 =>
  some (r29 + r31, m32)))))
  else
  X9_fillsBy_J120 R a0 x1 x2 m0)
def f_X9_fillsBy : Nat → Nat → Int32 → Int32 → Mem → Res
  | 0 => fun _ _ _ _ => none
  | n + 1 => f_X9_fillsBy_B (f_X9_fillsBy n)
set_option maxHeartbeats 2000000 in
theorem s_X9_fillsBy_J120 {K : KT} {R : Nat → Int32 → Int32 → Mem → Res} {dR : Nat} (C : Cx K cX9_fillsBy RX9 3 (dR + 1)) (Rr : Rx K (some .int)) (hR : ∀ (a0 : Nat) (x1 : Int32) (x2 : Int32) (h0 : tg a0 = 9) (m0 : Mem), Ct (kO K) yX9_fillsBy cX9_fillsBy 3 (some .int) dR [.ref (oF (kO K) a0), .int x1, .int x2] m0 (R a0 x1 x2 m0)) (hd : 40 ≤ dR)   (a0 : Nat) (x1 : Int32) (x2 : Int32) (h0 : tg a0 = 9) (m0 : Mem) : G K 120 [(0, .ref (kf K a0)), (1, .int x1), (2, .int x2)] [] m0 (X9_fillsBy_J120 R a0 x1 x2 m0) := by
  unfold X9_fillsBy_J120
  refine g_aload_n C dX9_fillsBy_120 0 rfl rfl ?_
  refine g_iload_n C dX9_fillsBy_121 1 rfl rfl ?_
  refine g_callSi C cv_X9_above q_1302 (ct_X9_above x1  m0) q_1301 (by omega) rfl rfl (Nat.le_of_ble_eq_true rfl) dX9_fillsBy_122 (fun r1 m2 => ?_)
  refine g_iload_n C dX9_fillsBy_125 2 rfl rfl ?_
  refine g_callVi C cv_X9_fillsBy (hR a0 r1 x2 h0 m2) q_1304 h0 (by omega) rfl rfl (Nat.le_of_ble_eq_true rfl) dX9_fillsBy_126 (fun r3 m4 => ?_)
  exact g_iret C Rr dX9_fillsBy_129
set_option maxHeartbeats 2000000 in
theorem s_X9_fillsBy_B {K : KT} {R : Nat → Int32 → Int32 → Mem → Res} {dR : Nat} (C : Cx K cX9_fillsBy RX9 3 (dR + 1)) (Rr : Rx K (some .int)) (hR : ∀ (a0 : Nat) (x1 : Int32) (x2 : Int32) (h0 : tg a0 = 9) (m0 : Mem), Ct (kO K) yX9_fillsBy cX9_fillsBy 3 (some .int) dR [.ref (oF (kO K) a0), .int x1, .int x2] m0 (R a0 x1 x2 m0)) (hd : 40 ≤ dR) (a0 : Nat) (x1 : Int32) (x2 : Int32) (h0 : tg a0 = 9) (m0 : Mem) : G K 0 [(0, .ref (kf K a0)), (1, .int x1), (2, .int x2)] [] m0 (f_X9_fillsBy_B R a0 x1 x2 m0) := by
  unfold f_X9_fillsBy_B
  refine g_iload_n C dX9_fillsBy_0 1 rfl rfl ?_
  refine g_tsw C 44 dX9_fillsBy_1 (by decide) rfl (by decide) ?_ (fun e7 => ?_)
  · refine g_aload_n C dX9_fillsBy_44 0 rfl rfl ?_
    refine g_bipush C (11 : Int32) dX9_fillsBy_45 rfl ?_
    refine g_callVv C cv_X9_begins (ct_X9_begins a0 (11 : Int32) h0 m0) q_1297 h0 (by omega) rfl rfl (Nat.le_of_ble_eq_true rfl) dX9_fillsBy_47 (fun r1 m2 => ?_)
    refine g_aload_n C dX9_fillsBy_50 0 rfl rfl ?_
    refine g_aload_n C dX9_fillsBy_51 0 rfl rfl ?_
    refine g_callVi C cv_X9_kindNow (ct_X9_kindNow a0 h0 m2) q_1289 h0 (by omega) rfl rfl (Nat.le_of_ble_eq_true rfl) dX9_fillsBy_52 (fun r3 m4 => ?_)
    refine g_iload_n C dX9_fillsBy_55 2 rfl rfl ?_
    refine g_callVi C cv_X9_sellsBy (ct_X9_sellsBy RF a0 r3 x2 h0 m4) q_1293 h0 (by have := RF_le; omega) rfl rfl (Nat.le_of_ble_eq_true rfl) dX9_fillsBy_56 (fun r5 m6 => ?_)
    refine g_iconst C (2 : Int32) dX9_fillsBy_59 rfl ?_
    refine g_imul C dX9_fillsBy_60 ?_
    exact g_iret C Rr dX9_fillsBy_61
  refine g_tsw C 120 dX9_fillsBy_1 (by decide) rfl (by decide) ?_ (fun e8 => ?_)
  · refine g_sub [0, 1, 2] rfl ?_
    exact s_X9_fillsBy_J120 C Rr hR hd a0 x1 x2 h0 m0
  refine g_tsw C 62 dX9_fillsBy_1 (by decide) rfl (by decide) ?_ (fun e15 => ?_)
  · refine g_aload_n C dX9_fillsBy_62 0 rfl rfl ?_
    refine g_bipush C (30 : Int32) dX9_fillsBy_63 rfl ?_
    refine g_callVv C cv_X9_begins (ct_X9_begins a0 (30 : Int32) h0 m0) q_1297 h0 (by omega) rfl rfl (Nat.le_of_ble_eq_true rfl) dX9_fillsBy_65 (fun r9 m10 => ?_)
    refine g_iconst C (0 : Int32) dX9_fillsBy_68 rfl ?_
    refine g_aload_n C dX9_fillsBy_69 0 rfl rfl ?_
    refine g_iconst C (2 : Int32) dX9_fillsBy_70 rfl ?_
    refine g_callSi C cv_X9_above q_1302 (ct_X9_above (2 : Int32)  m10) q_1301 (by omega) rfl rfl (Nat.le_of_ble_eq_true rfl) dX9_fillsBy_71 (fun r11 m12 => ?_)
    refine g_iload_n C dX9_fillsBy_74 2 rfl rfl ?_
    refine g_callVi C cv_X9_fillsBy (hR a0 r11 x2 h0 m12) q_1304 h0 (by omega) rfl rfl (Nat.le_of_ble_eq_true rfl) dX9_fillsBy_75 (fun r13 m14 => ?_)
    refine g_isub C dX9_fillsBy_78 ?_
    exact g_iret C Rr dX9_fillsBy_79
  refine g_tsw C 120 dX9_fillsBy_1 (by decide) rfl (by decide) ?_ (fun e16 => ?_)
  · refine g_sub [0, 1, 2] rfl ?_
    exact s_X9_fillsBy_J120 C Rr hR hd a0 x1 x2 h0 m0
  refine g_tsw C 120 dX9_fillsBy_1 (by decide) rfl (by decide) ?_ (fun e17 => ?_)
  · refine g_sub [0, 1, 2] rfl ?_
    exact s_X9_fillsBy_J120 C Rr hR hd a0 x1 x2 h0 m0
  refine g_tsw C 80 dX9_fillsBy_1 (by decide) rfl (by decide) ?_ (fun e24 => ?_)
  · refine g_aload_n C dX9_fillsBy_80 0 rfl rfl ?_
    refine g_bipush C (60 : Int32) dX9_fillsBy_81 rfl ?_
    refine g_callVv C cv_X9_begins (ct_X9_begins a0 (60 : Int32) h0 m0) q_1297 h0 (by omega) rfl rfl (Nat.le_of_ble_eq_true rfl) dX9_fillsBy_83 (fun r18 m19 => ?_)
    refine g_aload_n C dX9_fillsBy_86 0 rfl rfl ?_
    refine g_iconst C (5 : Int32) dX9_fillsBy_87 rfl ?_
    refine g_callSi C cv_X9_above q_1302 (ct_X9_above (5 : Int32)  m19) q_1301 (by omega) rfl rfl (Nat.le_of_ble_eq_true rfl) dX9_fillsBy_88 (fun r20 m21 => ?_)
    refine g_iload_n C dX9_fillsBy_91 2 rfl rfl ?_
    refine g_iconst C (1 : Int32) dX9_fillsBy_92 rfl ?_
    refine g_iadd C dX9_fillsBy_93 ?_
    refine g_callVi C cv_X9_fillsBy (hR a0 r20 (x2 + (1 : Int32)) h0 m21) q_1304 h0 (by omega) rfl rfl (Nat.le_of_ble_eq_true rfl) dX9_fillsBy_94 (fun r22 m23 => ?_)
    exact g_iret C Rr dX9_fillsBy_97
  refine g_tsw C 98 dX9_fillsBy_1 (by decide) rfl (by decide) ?_ (fun e33 => ?_)
  · refine g_aload_n C dX9_fillsBy_98 0 rfl rfl ?_
    refine g_bipush C (71 : Int32) dX9_fillsBy_99 rfl ?_
    refine g_callVv C cv_X9_begins (ct_X9_begins a0 (71 : Int32) h0 m0) q_1297 h0 (by omega) rfl rfl (Nat.le_of_ble_eq_true rfl) dX9_fillsBy_101 (fun r25 m26 => ?_)
    refine g_aload_n C dX9_fillsBy_104 0 rfl rfl ?_
    refine g_bipush C (6 : Int32) dX9_fillsBy_105 rfl ?_
    refine g_callSi C cv_X9_above q_1302 (ct_X9_above (6 : Int32)  m26) q_1301 (by omega) rfl rfl (Nat.le_of_ble_eq_true rfl) dX9_fillsBy_107 (fun r27 m28 => ?_)
    refine g_iload_n C dX9_fillsBy_110 2 rfl rfl ?_
    refine g_callVi C cv_X9_fillsBy (hR a0 r27 x2 h0 m28) q_1304 h0 (by omega) rfl rfl (Nat.le_of_ble_eq_true rfl) dX9_fillsBy_111 (fun r29 m30 => ?_)
    refine g_aload_n C dX9_fillsBy_114 0 rfl rfl ?_
    refine g_callVi C cv_X9_mNow (ct_X9_mNow a0 h0 m30) q_1308 h0 (by omega) rfl rfl (Nat.le_of_ble_eq_true rfl) dX9_fillsBy_115 (fun r31 m32 => ?_)
    refine g_iadd C dX9_fillsBy_118 ?_
    exact g_iret C Rr dX9_fillsBy_119
  refine g_tswd C 120 dX9_fillsBy_1 (sw_out [(0 : Int32), (1 : Int32), (2 : Int32), (3 : Int32), (4 : Int32), (5 : Int32), (6 : Int32)] (by intro v hv; simp only [List.mem_cons, List.not_mem_nil, or_false] at hv; rcases hv with rfl | rfl | rfl | rfl | rfl | rfl | rfl <;> assumption) (fun i h1 h2 => by have hi : i = 0 ∨ i = 1 ∨ i = 2 ∨ i = 3 ∨ i = 4 ∨ i = 5 ∨ i = 6 := (by omega); rcases hi with rfl | rfl | rfl | rfl | rfl | rfl | rfl <;> simp)) (by decide) ?_
  refine g_sub [0, 1, 2] rfl ?_
  exact s_X9_fillsBy_J120 C Rr hR hd a0 x1 x2 h0 m0
theorem ct_X9_fillsBy {Ω : OT} : ∀ (n : Nat) (a0 : Nat) (x1 : Int32) (x2 : Int32) (h0 : tg a0 = 9) (m0 : Mem), Ct Ω yX9_fillsBy cX9_fillsBy 3 (some .int) (40 + 1 * n) [.ref (oF Ω a0), .int x1, .int x2] m0 (f_X9_fillsBy n a0 x1 x2 m0) := by
  intro n
  induction n with
  | zero => intros; intro r μ' h; cases h
  | succ n ih =>
    intro a0 x1 x2 h0 m0
    refine Ct_of (by decide) (Nat.le_of_ble_eq_true rfl) ?_
    intro K hK C Rr
    subst hK
    exact s_X9_fillsBy_B (dR := 40 + 1 * n) C Rr ih (by omega) a0 x1 x2 h0 m0
def X9_owesBy_J96 (R : Nat → Int32 → Int32 → Mem → Res)  (a0 : Nat) (x1 : Int32) (x2 : Int32) (m0 : Mem) : Res :=
  cal (f_X9_above x1 m0) (fun r1 m2 =>
  cal (R a0 r1 x2 m2) (fun r3 m4 =>
  some (r3, m4)))
def f_X9_owesBy_B (R : Nat → Int32 → Int32 → Mem → Res) (a0 : Nat) (x1 : Int32) (x2 : Int32) (m0 : Mem) : Res :=
  (if x1 = (0 : Int32) then
  cal (f_X9_begins a0 (12 : Int32) m0) (fun r1 m2 =>
  cal (f_X9_kindNow a0 m2) (fun r3 m4 =>
  cal (f_X9_fillsBy RF a0 r3 x2 m4) (fun r5 m6 =>
  cal (f_X9_mNow a0 m6) (fun r7 m8 =>
  some (r5 - r7, m8)))))
  else
  if x1 = (1 : Int32) then
  X9_owesBy_J96 R a0 x1 x2 m0
  else
  if x1 = (2 : Int32) then
  X9_owesBy_J96 R a0 x1 x2 m0
  else
  if x1 = (3 : Int32) then
  cal (f_X9_begins a0 (40 : Int32) m0) (fun r12 m13 =>
  cal (f_X9_above (3 : Int32) m13) (fun r14 m15 =>
  gd (!((2 : Int32) == 0)) (
  cal (R a0 r14 (x2 / (2 : Int32)) m15) (fun r16 m17 =>
  some (r16, m17)))))
  else
  if x1 = (4 : Int32) then
  cal (f_X9_begins a0 (51 : Int32) m0) (fun r19 m20 =>
  cal (f_X9_above (4 : Int32) m20) (fun r21 m22 =>
  cal (R a0 r21 x2 m22) (fun r23 m24 =>
  some (r23 ^^^ (m24 a0 14), m24))))
  else
  X9_owesBy_J96 R a0 x1 x2 m0)
def f_X9_owesBy : Nat → Nat → Int32 → Int32 → Mem → Res
  | 0 => fun _ _ _ _ => none
  | n + 1 => f_X9_owesBy_B (f_X9_owesBy n)
set_option maxHeartbeats 2000000 in
theorem s_X9_owesBy_J96 {K : KT} {R : Nat → Int32 → Int32 → Mem → Res} {dR : Nat} (C : Cx K cX9_owesBy RX9 3 (dR + 1)) (Rr : Rx K (some .int)) (hR : ∀ (a0 : Nat) (x1 : Int32) (x2 : Int32) (h0 : tg a0 = 9) (m0 : Mem), Ct (kO K) yX9_owesBy cX9_owesBy 3 (some .int) dR [.ref (oF (kO K) a0), .int x1, .int x2] m0 (R a0 x1 x2 m0)) (hd : 72 ≤ dR)   (a0 : Nat) (x1 : Int32) (x2 : Int32) (h0 : tg a0 = 9) (m0 : Mem) : G K 96 [(0, .ref (kf K a0)), (1, .int x1), (2, .int x2)] [] m0 (X9_owesBy_J96 R a0 x1 x2 m0) := by
  unfold X9_owesBy_J96
  refine g_aload_n C dX9_owesBy_96 0 rfl rfl ?_
  refine g_iload_n C dX9_owesBy_97 1 rfl rfl ?_
  refine g_callSi C cv_X9_above q_1302 (ct_X9_above x1  m0) q_1301 (by omega) rfl rfl (Nat.le_of_ble_eq_true rfl) dX9_owesBy_98 (fun r1 m2 => ?_)
  refine g_iload_n C dX9_owesBy_101 2 rfl rfl ?_
  refine g_callVi C cv_X9_owesBy (hR a0 r1 x2 h0 m2) q_1312 h0 (by omega) rfl rfl (Nat.le_of_ble_eq_true rfl) dX9_owesBy_102 (fun r3 m4 => ?_)
  exact g_iret C Rr dX9_owesBy_105
set_option maxHeartbeats 2000000 in
theorem s_X9_owesBy_B {K : KT} {R : Nat → Int32 → Int32 → Mem → Res} {dR : Nat} (C : Cx K cX9_owesBy RX9 3 (dR + 1)) (Rr : Rx K (some .int)) (hR : ∀ (a0 : Nat) (x1 : Int32) (x2 : Int32) (h0 : tg a0 = 9) (m0 : Mem), Ct (kO K) yX9_owesBy cX9_owesBy 3 (some .int) dR [.ref (oF (kO K) a0), .int x1, .int x2] m0 (R a0 x1 x2 m0)) (hd : 72 ≤ dR) (a0 : Nat) (x1 : Int32) (x2 : Int32) (h0 : tg a0 = 9) (m0 : Mem) : G K 0 [(0, .ref (kf K a0)), (1, .int x1), (2, .int x2)] [] m0 (f_X9_owesBy_B R a0 x1 x2 m0) := by
  unfold f_X9_owesBy_B
  refine g_iload_n C dX9_owesBy_0 1 rfl rfl ?_
  refine g_tsw C 36 dX9_owesBy_1 (by decide) rfl (by decide) ?_ (fun e9 => ?_)
  · refine g_aload_n C dX9_owesBy_36 0 rfl rfl ?_
    refine g_bipush C (12 : Int32) dX9_owesBy_37 rfl ?_
    refine g_callVv C cv_X9_begins (ct_X9_begins a0 (12 : Int32) h0 m0) q_1297 h0 (by omega) rfl rfl (Nat.le_of_ble_eq_true rfl) dX9_owesBy_39 (fun r1 m2 => ?_)
    refine g_aload_n C dX9_owesBy_42 0 rfl rfl ?_
    refine g_aload_n C dX9_owesBy_43 0 rfl rfl ?_
    refine g_callVi C cv_X9_kindNow (ct_X9_kindNow a0 h0 m2) q_1289 h0 (by omega) rfl rfl (Nat.le_of_ble_eq_true rfl) dX9_owesBy_44 (fun r3 m4 => ?_)
    refine g_iload_n C dX9_owesBy_47 2 rfl rfl ?_
    refine g_callVi C cv_X9_fillsBy (ct_X9_fillsBy RF a0 r3 x2 h0 m4) q_1304 h0 (by have := RF_le; omega) rfl rfl (Nat.le_of_ble_eq_true rfl) dX9_owesBy_48 (fun r5 m6 => ?_)
    refine g_aload_n C dX9_owesBy_51 0 rfl rfl ?_
    refine g_callVi C cv_X9_mNow (ct_X9_mNow a0 h0 m6) q_1308 h0 (by omega) rfl rfl (Nat.le_of_ble_eq_true rfl) dX9_owesBy_52 (fun r7 m8 => ?_)
    refine g_isub C dX9_owesBy_55 ?_
    exact g_iret C Rr dX9_owesBy_56
  refine g_tsw C 96 dX9_owesBy_1 (by decide) rfl (by decide) ?_ (fun e10 => ?_)
  · refine g_sub [0, 1, 2] rfl ?_
    exact s_X9_owesBy_J96 C Rr hR hd a0 x1 x2 h0 m0
  refine g_tsw C 96 dX9_owesBy_1 (by decide) rfl (by decide) ?_ (fun e11 => ?_)
  · refine g_sub [0, 1, 2] rfl ?_
    exact s_X9_owesBy_J96 C Rr hR hd a0 x1 x2 h0 m0
  refine g_tsw C 57 dX9_owesBy_1 (by decide) rfl (by decide) ?_ (fun e18 => ?_)
  · refine g_aload_n C dX9_owesBy_57 0 rfl rfl ?_
    refine g_bipush C (40 : Int32) dX9_owesBy_58 rfl ?_
    refine g_callVv C cv_X9_begins (ct_X9_begins a0 (40 : Int32) h0 m0) q_1297 h0 (by omega) rfl rfl (Nat.le_of_ble_eq_true rfl) dX9_owesBy_60 (fun r12 m13 => ?_)
    refine g_aload_n C dX9_owesBy_63 0 rfl rfl ?_
    refine g_iconst C (3 : Int32) dX9_owesBy_64 rfl ?_
    refine g_callSi C cv_X9_above q_1302 (ct_X9_above (3 : Int32)  m13) q_1301 (by omega) rfl rfl (Nat.le_of_ble_eq_true rfl) dX9_owesBy_65 (fun r14 m15 => ?_)
    refine g_iload_n C dX9_owesBy_68 2 rfl rfl ?_
    refine g_iconst C (2 : Int32) dX9_owesBy_69 rfl ?_
    refine g_idiv C dX9_owesBy_70 (fun _ => ?_)
    refine g_callVi C cv_X9_owesBy (hR a0 r14 (x2 / (2 : Int32)) h0 m15) q_1312 h0 (by omega) rfl rfl (Nat.le_of_ble_eq_true rfl) dX9_owesBy_71 (fun r16 m17 => ?_)
    exact g_iret C Rr dX9_owesBy_74
  refine g_tsw C 75 dX9_owesBy_1 (by decide) rfl (by decide) ?_ (fun e25 => ?_)
  · refine g_aload_n C dX9_owesBy_75 0 rfl rfl ?_
    refine g_bipush C (51 : Int32) dX9_owesBy_76 rfl ?_
    refine g_callVv C cv_X9_begins (ct_X9_begins a0 (51 : Int32) h0 m0) q_1297 h0 (by omega) rfl rfl (Nat.le_of_ble_eq_true rfl) dX9_owesBy_78 (fun r19 m20 => ?_)
    refine g_aload_n C dX9_owesBy_81 0 rfl rfl ?_
    refine g_iconst C (4 : Int32) dX9_owesBy_82 rfl ?_
    refine g_callSi C cv_X9_above q_1302 (ct_X9_above (4 : Int32)  m20) q_1301 (by omega) rfl rfl (Nat.le_of_ble_eq_true rfl) dX9_owesBy_83 (fun r21 m22 => ?_)
    refine g_iload_n C dX9_owesBy_86 2 rfl rfl ?_
    refine g_callVi C cv_X9_owesBy (hR a0 r21 x2 h0 m22) q_1312 h0 (by omega) rfl rfl (Nat.le_of_ble_eq_true rfl) dX9_owesBy_87 (fun r23 m24 => ?_)
    refine g_aload_n C dX9_owesBy_90 0 rfl rfl ?_
    refine g_geti C 14 Fx9 h0 (by decide) rfl rfl q_933 dX9_owesBy_91 ?_
    refine g_ixor C dX9_owesBy_94 ?_
    exact g_iret C Rr dX9_owesBy_95
  refine g_tswd C 96 dX9_owesBy_1 (sw_out [(0 : Int32), (1 : Int32), (2 : Int32), (3 : Int32), (4 : Int32)] (by intro v hv; simp only [List.mem_cons, List.not_mem_nil, or_false] at hv; rcases hv with rfl | rfl | rfl | rfl | rfl <;> assumption) (fun i h1 h2 => by have hi : i = 0 ∨ i = 1 ∨ i = 2 ∨ i = 3 ∨ i = 4 := (by omega); rcases hi with rfl | rfl | rfl | rfl | rfl <;> simp)) (by decide) ?_
  refine g_sub [0, 1, 2] rfl ?_
  exact s_X9_owesBy_J96 C Rr hR hd a0 x1 x2 h0 m0
theorem ct_X9_owesBy {Ω : OT} : ∀ (n : Nat) (a0 : Nat) (x1 : Int32) (x2 : Int32) (h0 : tg a0 = 9) (m0 : Mem), Ct Ω yX9_owesBy cX9_owesBy 3 (some .int) (72 + 1 * n) [.ref (oF Ω a0), .int x1, .int x2] m0 (f_X9_owesBy n a0 x1 x2 m0) := by
  intro n
  induction n with
  | zero => intros; intro r μ' h; cases h
  | succ n ih =>
    intro a0 x1 x2 h0 m0
    refine Ct_of (by decide) (Nat.le_of_ble_eq_true rfl) ?_
    intro K hK C Rr
    subst hK
    exact s_X9_owesBy_B (dR := 72 + 1 * n) C Rr ih (by omega) a0 x1 x2 h0 m0
def X9_partsBy_J78 (R : Nat → Int32 → Int32 → Mem → Res)  (xs0 : Int32) (m0 : Mem) : Res :=
  some (xs0, m0)
def X9_partsBy_J54 (R : Nat → Int32 → Int32 → Mem → Res)  (x2 : Int32) (x3 : Int32) (as0 : Nat) (xs1 : Int32) (m0 : Mem) : Res :=
  gd (isb xs1) (bnd (mset m0 as0 15 xs1) (fun m1 =>
  (if x3 = 0 then
  X9_partsBy_J78 R (0 : Int32) m1
  else
  (if x3 = (-1 : Int32) then
  X9_partsBy_J78 R (-x2) m1
  else
  gd (!(x3 == 0)) (
  X9_partsBy_J78 R (x2 / x3) m1)))))
def X9_partsBy_J119 (R : Nat → Int32 → Int32 → Mem → Res)  (xs0 : Int32) (m0 : Mem) : Res :=
  some (xs0, m0)
def f_X9_partsBy_B (R : Nat → Int32 → Int32 → Mem → Res) (a0 : Nat) (x1 : Int32) (x2 : Int32) (m0 : Mem) : Res :=
  (if x1 = (0 : Int32) then
  cal (f_X9_begins a0 (13 : Int32) m0) (fun r1 m2 =>
  cal (f_X9_mNow a0 m2) (fun r3 m4 =>
  bnd (r3 - (m4 a0 14)) (fun y5 =>
  (if y5 = 0 then
  X9_partsBy_J54 R x2 y5 a0 (1 : Int32) m4
  else
  X9_partsBy_J54 R x2 y5 a0 (0 : Int32) m4))))
  else
  if x1 = (1 : Int32) then
  cal (f_X9_begins a0 (21 : Int32) m0) (fun r7 m8 =>
  cal (f_X9_above (1 : Int32) m8) (fun r9 m10 =>
  cal (R a0 r9 x2 m10) (fun r11 m12 =>
  (if (m12 a0 15) = 0 then
  cal (f_X9_kindNow a0 m12) (fun r13 m14 =>
  cal (f_X9_fillsBy RF a0 r13 (1 : Int32) m14) (fun r15 m16 =>
  X9_partsBy_J119 R (r11 + r15) m16))
  else
  X9_partsBy_J119 R (0 : Int32) m12))))
  else
  cal (f_X9_above x1 m0) (fun r18 m19 =>
  cal (R a0 r18 x2 m19) (fun r20 m21 =>
  some (r20, m21))))
def f_X9_partsBy : Nat → Nat → Int32 → Int32 → Mem → Res
  | 0 => fun _ _ _ _ => none
  | n + 1 => f_X9_partsBy_B (f_X9_partsBy n)
set_option maxHeartbeats 2000000 in
theorem s_X9_partsBy_J78 {K : KT} {R : Nat → Int32 → Int32 → Mem → Res} {dR : Nat} (C : Cx K cX9_partsBy RX9 5 (dR + 1)) (Rr : Rx K (some .int)) (hR : ∀ (a0 : Nat) (x1 : Int32) (x2 : Int32) (h0 : tg a0 = 9) (m0 : Mem), Ct (kO K) yX9_partsBy cX9_partsBy 5 (some .int) dR [.ref (oF (kO K) a0), .int x1, .int x2] m0 (R a0 x1 x2 m0)) (hd : 104 ≤ dR)   (xs0 : Int32)  (m0 : Mem) : G K 78 [] [.int xs0] m0 (X9_partsBy_J78 R xs0 m0) := by
  unfold X9_partsBy_J78
  exact g_iret C Rr dX9_partsBy_78
set_option maxHeartbeats 2000000 in
theorem s_X9_partsBy_J54 {K : KT} {R : Nat → Int32 → Int32 → Mem → Res} {dR : Nat} (C : Cx K cX9_partsBy RX9 5 (dR + 1)) (Rr : Rx K (some .int)) (hR : ∀ (a0 : Nat) (x1 : Int32) (x2 : Int32) (h0 : tg a0 = 9) (m0 : Mem), Ct (kO K) yX9_partsBy cX9_partsBy 5 (some .int) dR [.ref (oF (kO K) a0), .int x1, .int x2] m0 (R a0 x1 x2 m0)) (hd : 104 ≤ dR)   (x2 : Int32) (x3 : Int32) (as0 : Nat) (xs1 : Int32) (hs0 : tg as0 = 9) (m0 : Mem) : G K 54 [(2, .int x2), (3, .int x3)] [.int xs1, .ref (kf K as0)] m0 (X9_partsBy_J54 R x2 x3 as0 xs1 m0) := by
  unfold X9_partsBy_J54
  refine g_putZ (k := 15) C Fx9 hs0 (by decide) rfl rfl rfl rfl q_934 dX9_partsBy_54 (fun m1 => ?_)
  refine g_iload_n C dX9_partsBy_57 1 rfl rfl ?_
  refine g_if_ne C 65 dX9_partsBy_58 (by decide) (fun _ => ?_) (fun _ => ?_)
  · refine g_iload_n C dX9_partsBy_65 1 rfl rfl ?_
    refine g_iconst C (-1 : Int32) dX9_partsBy_66 rfl ?_
    refine g_icmp_ne C 75 dX9_partsBy_67 (by decide) (fun _ => ?_) (fun _ => ?_)
    · refine g_iload_n C dX9_partsBy_75 0 rfl rfl ?_
      refine g_iload_n C dX9_partsBy_76 1 rfl rfl ?_
      refine g_idiv C dX9_partsBy_77 (fun _ => ?_)
      refine g_sub [] rfl ?_
      exact s_X9_partsBy_J78 C Rr hR hd (x2 / x3) m1
    · refine g_iload_n C dX9_partsBy_70 0 rfl rfl ?_
      refine g_ineg C dX9_partsBy_71 ?_
      refine g_goto C 78 dX9_partsBy_72 (by decide) ?_
      refine g_sub [] rfl ?_
      exact s_X9_partsBy_J78 C Rr hR hd (-x2) m1
  · refine g_iconst C (0 : Int32) dX9_partsBy_61 rfl ?_
    refine g_goto C 78 dX9_partsBy_62 (by decide) ?_
    refine g_sub [] rfl ?_
    exact s_X9_partsBy_J78 C Rr hR hd (0 : Int32) m1
set_option maxHeartbeats 2000000 in
theorem s_X9_partsBy_J119 {K : KT} {R : Nat → Int32 → Int32 → Mem → Res} {dR : Nat} (C : Cx K cX9_partsBy RX9 5 (dR + 1)) (Rr : Rx K (some .int)) (hR : ∀ (a0 : Nat) (x1 : Int32) (x2 : Int32) (h0 : tg a0 = 9) (m0 : Mem), Ct (kO K) yX9_partsBy cX9_partsBy 5 (some .int) dR [.ref (oF (kO K) a0), .int x1, .int x2] m0 (R a0 x1 x2 m0)) (hd : 104 ≤ dR)   (xs0 : Int32)  (m0 : Mem) : G K 119 [] [.int xs0] m0 (X9_partsBy_J119 R xs0 m0) := by
  unfold X9_partsBy_J119
  exact g_iret C Rr dX9_partsBy_119
set_option maxHeartbeats 2000000 in
theorem s_X9_partsBy_B {K : KT} {R : Nat → Int32 → Int32 → Mem → Res} {dR : Nat} (C : Cx K cX9_partsBy RX9 5 (dR + 1)) (Rr : Rx K (some .int)) (hR : ∀ (a0 : Nat) (x1 : Int32) (x2 : Int32) (h0 : tg a0 = 9) (m0 : Mem), Ct (kO K) yX9_partsBy cX9_partsBy 5 (some .int) dR [.ref (oF (kO K) a0), .int x1, .int x2] m0 (R a0 x1 x2 m0)) (hd : 104 ≤ dR) (a0 : Nat) (x1 : Int32) (x2 : Int32) (h0 : tg a0 = 9) (m0 : Mem) : G K 0 [(0, .ref (kf K a0)), (1, .int x1), (2, .int x2)] [] m0 (f_X9_partsBy_B R a0 x1 x2 m0) := by
  unfold f_X9_partsBy_B
  refine g_iload_n C dX9_partsBy_0 1 rfl rfl ?_
  refine g_lsw C 28 dX9_partsBy_1 (by decide) rfl (by decide) ?_ (fun e6 => ?_)
  · refine g_aload_n C dX9_partsBy_28 0 rfl rfl ?_
    refine g_bipush C (13 : Int32) dX9_partsBy_29 rfl ?_
    refine g_callVv C cv_X9_begins (ct_X9_begins a0 (13 : Int32) h0 m0) q_1297 h0 (by omega) rfl rfl (Nat.le_of_ble_eq_true rfl) dX9_partsBy_31 (fun r1 m2 => ?_)
    refine g_aload_n C dX9_partsBy_34 0 rfl rfl ?_
    refine g_callVi C cv_X9_mNow (ct_X9_mNow a0 h0 m2) q_1308 h0 (by omega) rfl rfl (Nat.le_of_ble_eq_true rfl) dX9_partsBy_35 (fun r3 m4 => ?_)
    refine g_aload_n C dX9_partsBy_38 0 rfl rfl ?_
    refine g_geti C 14 Fx9 h0 (by decide) rfl rfl q_933 dX9_partsBy_39 ?_
    refine g_isub C dX9_partsBy_42 ?_
    refine g_bnd (fun y5 => ?_)
    refine g_istore_n C dX9_partsBy_43 rfl (by decide) rfl ?_
    refine g_aload_n C dX9_partsBy_44 1 rfl rfl ?_
    refine g_iload_n C dX9_partsBy_45 0 rfl rfl ?_
    refine g_if_ne C 53 dX9_partsBy_46 (by decide) (fun _ => ?_) (fun _ => ?_)
    · refine g_iconst C (0 : Int32) dX9_partsBy_53 rfl ?_
      refine g_sub [3, 0] rfl ?_
      exact s_X9_partsBy_J54 C Rr hR hd x2 y5 a0 (0 : Int32) h0 m4
    · refine g_iconst C (1 : Int32) dX9_partsBy_49 rfl ?_
      refine g_goto C 54 dX9_partsBy_50 (by decide) ?_
      refine g_sub [3, 0] rfl ?_
      exact s_X9_partsBy_J54 C Rr hR hd x2 y5 a0 (1 : Int32) h0 m4
  refine g_lsw C 79 dX9_partsBy_1 (by decide) rfl (by decide) ?_ (fun e17 => ?_)
  · refine g_aload_n C dX9_partsBy_79 0 rfl rfl ?_
    refine g_bipush C (21 : Int32) dX9_partsBy_80 rfl ?_
    refine g_callVv C cv_X9_begins (ct_X9_begins a0 (21 : Int32) h0 m0) q_1297 h0 (by omega) rfl rfl (Nat.le_of_ble_eq_true rfl) dX9_partsBy_82 (fun r7 m8 => ?_)
    refine g_aload_n C dX9_partsBy_85 0 rfl rfl ?_
    refine g_iconst C (1 : Int32) dX9_partsBy_86 rfl ?_
    refine g_callSi C cv_X9_above q_1302 (ct_X9_above (1 : Int32)  m8) q_1301 (by omega) rfl rfl (Nat.le_of_ble_eq_true rfl) dX9_partsBy_87 (fun r9 m10 => ?_)
    refine g_iload_n C dX9_partsBy_90 2 rfl rfl ?_
    refine g_callVi C cv_X9_partsBy (hR a0 r9 x2 h0 m10) q_1316 h0 (by omega) rfl rfl (Nat.le_of_ble_eq_true rfl) dX9_partsBy_91 (fun r11 m12 => ?_)
    refine g_istore C dX9_partsBy_94 (by decide) rfl ?_
    refine g_aload_n C dX9_partsBy_96 1 rfl rfl ?_
    refine g_geti C 15 Fx9 h0 (by decide) rfl rfl q_934 dX9_partsBy_97 ?_
    refine g_if_eq C 107 dX9_partsBy_100 (by decide) (fun _ => ?_) (fun _ => ?_)
    · refine g_iload C dX9_partsBy_107 0 rfl ?_
      refine g_aload_n C dX9_partsBy_109 1 rfl rfl ?_
      refine g_aload_n C dX9_partsBy_110 1 rfl rfl ?_
      refine g_callVi C cv_X9_kindNow (ct_X9_kindNow a0 h0 m12) q_1289 h0 (by omega) rfl rfl (Nat.le_of_ble_eq_true rfl) dX9_partsBy_111 (fun r13 m14 => ?_)
      refine g_iconst C (1 : Int32) dX9_partsBy_114 rfl ?_
      refine g_callVi C cv_X9_fillsBy (ct_X9_fillsBy RF a0 r13 (1 : Int32) h0 m14) q_1304 h0 (by have := RF_le; omega) rfl rfl (Nat.le_of_ble_eq_true rfl) dX9_partsBy_115 (fun r15 m16 => ?_)
      refine g_iadd C dX9_partsBy_118 ?_
      refine g_sub [] rfl ?_
      exact s_X9_partsBy_J119 C Rr hR hd (r11 + r15) m16
    · refine g_iconst C (0 : Int32) dX9_partsBy_103 rfl ?_
      refine g_goto C 119 dX9_partsBy_104 (by decide) ?_
      refine g_sub [] rfl ?_
      exact s_X9_partsBy_J119 C Rr hR hd (0 : Int32) m12
  refine g_lswd C 120 [(0 : Int32), (1 : Int32)] dX9_partsBy_1 (by decide) rfl (by intro v hv; simp only [List.mem_cons, List.not_mem_nil, or_false] at hv; rcases hv with rfl | rfl <;> assumption) (by decide) ?_
  refine g_aload_n C dX9_partsBy_120 0 rfl rfl ?_
  refine g_iload_n C dX9_partsBy_121 1 rfl rfl ?_
  refine g_callSi C cv_X9_above q_1302 (ct_X9_above x1  m0) q_1301 (by omega) rfl rfl (Nat.le_of_ble_eq_true rfl) dX9_partsBy_122 (fun r18 m19 => ?_)
  refine g_iload_n C dX9_partsBy_125 2 rfl rfl ?_
  refine g_callVi C cv_X9_partsBy (hR a0 r18 x2 h0 m19) q_1316 h0 (by omega) rfl rfl (Nat.le_of_ble_eq_true rfl) dX9_partsBy_126 (fun r20 m21 => ?_)
  exact g_iret C Rr dX9_partsBy_129
theorem ct_X9_partsBy {Ω : OT} : ∀ (n : Nat) (a0 : Nat) (x1 : Int32) (x2 : Int32) (h0 : tg a0 = 9) (m0 : Mem), Ct Ω yX9_partsBy cX9_partsBy 5 (some .int) (104 + 1 * n) [.ref (oF Ω a0), .int x1, .int x2] m0 (f_X9_partsBy n a0 x1 x2 m0) := by
  intro n
  induction n with
  | zero => intros; intro r μ' h; cases h
  | succ n ih =>
    intro a0 x1 x2 h0 m0
    refine Ct_of (by decide) (Nat.le_of_ble_eq_true rfl) ?_
    intro K hK C Rr
    subst hK
    exact s_X9_partsBy_B (dR := 104 + 1 * n) C Rr ih (by omega) a0 x1 x2 h0 m0
def X9_voice_J17   (a0 : Nat) (m0 : Mem) : Res :=
  cal (f_X9_error a0 (1 : Int32) m0) (fun r1 m2 =>
  some (r1, m2))
def X9_voice_J115   (xs0 : Int32) (m0 : Mem) : Res :=
  some (xs0, m0)
def X9_voice_J95   (a0 : Nat) (xs0 : Int32) (m0 : Mem) : Res :=
  (if (m0 a0 15) = 0 then
  X9_voice_J115 xs0 m0
  else
  cal (f_X9_error a0 (6 : Int32) m0) (fun r1 m2 =>
  X9_voice_J115 r1 m2))
def f_X9_voice  (a0 : Nat) (x1 : Int32) (x2 : Int32) (x3 : Int32) (m0 : Mem) : Res :=
  cal (f_X9_isShop a0 x1 m0) (fun r1 m2 =>
  (if r1 = 0 then
  X9_voice_J17 a0 m2
  else
  cal (f_X9_in x2 (0 : Int32) (3 : Int32) m2) (fun r3 m4 =>
  (if r3 = 0 then
  X9_voice_J17 a0 m4
  else
  bnd (mset m4 a0 13 (0 : Int32)) (fun m5 =>
  bnd (mset m5 a0 14 x1) (fun m6 =>
  gd (isb (0 : Int32)) (bnd (mset m6 a0 15 (0 : Int32)) (fun m7 =>
  cal (f_X9_kindNow a0 m7) (fun r8 m9 =>
  (if x2 = 0 then
  cal (f_X9_sellsBy RF a0 r8 x3 m9) (fun r16 m17 =>
  X9_voice_J95 a0 r16 m17)
  else
  (if x2 = (1 : Int32) then
  cal (f_X9_fillsBy RF a0 r8 x3 m9) (fun r14 m15 =>
  X9_voice_J95 a0 r14 m15)
  else
  (if x2 = (2 : Int32) then
  cal (f_X9_owesBy RF a0 r8 x3 m9) (fun r12 m13 =>
  X9_voice_J95 a0 r12 m13)
  else
  cal (f_X9_partsBy RF a0 r8 x3 m9) (fun r10 m11 =>
  X9_voice_J95 a0 r10 m11)))))))))))))
set_option maxHeartbeats 2000000 in
theorem s_X9_voice_J17 {K : KT}  (C : Cx K cX9_voice RX9 6 129) (Rr : Rx K (some .int))    (a0 : Nat) (h0 : tg a0 = 9) (m0 : Mem) : G K 17 [(0, .ref (kf K a0))] [] m0 (X9_voice_J17 a0 m0) := by
  unfold X9_voice_J17
  refine g_aload_n C dX9_voice_17 0 rfl rfl ?_
  refine g_iconst C (1 : Int32) dX9_voice_18 rfl ?_
  refine g_callVi C cv_X9_error (ct_X9_error a0 (1 : Int32) h0 m0) q_990 h0 (by decide) rfl rfl (Nat.le_of_ble_eq_true rfl) dX9_voice_19 (fun r1 m2 => ?_)
  exact g_iret C Rr dX9_voice_22
set_option maxHeartbeats 2000000 in
theorem s_X9_voice_J115 {K : KT}  (C : Cx K cX9_voice RX9 6 129) (Rr : Rx K (some .int))    (xs0 : Int32)  (m0 : Mem) : G K 115 [] [.int xs0] m0 (X9_voice_J115 xs0 m0) := by
  unfold X9_voice_J115
  exact g_iret C Rr dX9_voice_115
set_option maxHeartbeats 2000000 in
theorem s_X9_voice_J95 {K : KT}  (C : Cx K cX9_voice RX9 6 129) (Rr : Rx K (some .int))    (a0 : Nat) (xs0 : Int32) (h0 : tg a0 = 9) (m0 : Mem) : G K 95 [(0, .ref (kf K a0))] [.int xs0] m0 (X9_voice_J95 a0 xs0 m0) := by
  unfold X9_voice_J95
  refine g_istore C dX9_voice_95 (by decide) rfl ?_
  refine g_aload_n C dX9_voice_97 1 rfl rfl ?_
  refine g_geti C 15 Fx9 h0 (by decide) rfl rfl q_934 dX9_voice_98 ?_
  refine g_if_eq C 113 dX9_voice_101 (by decide) (fun _ => ?_) (fun _ => ?_)
  · refine g_iload C dX9_voice_113 0 rfl ?_
    refine g_sub [] rfl ?_
    exact s_X9_voice_J115 C Rr xs0 m0
  · refine g_aload_n C dX9_voice_104 1 rfl rfl ?_
    refine g_bipush C (6 : Int32) dX9_voice_105 rfl ?_
    refine g_callVi C cv_X9_error (ct_X9_error a0 (6 : Int32) h0 m0) q_990 h0 (by decide) rfl rfl (Nat.le_of_ble_eq_true rfl) dX9_voice_107 (fun r1 m2 => ?_)
    refine g_goto C 115 dX9_voice_110 (by decide) ?_
    refine g_sub [] rfl ?_
    exact s_X9_voice_J115 C Rr r1 m2
set_option maxHeartbeats 2000000 in
theorem s_X9_voice {K : KT}  (C : Cx K cX9_voice RX9 6 129) (Rr : Rx K (some .int))  (a0 : Nat) (x1 : Int32) (x2 : Int32) (x3 : Int32) (h0 : tg a0 = 9) (m0 : Mem) : G K 0 [(0, .ref (kf K a0)), (1, .int x1), (2, .int x2), (3, .int x3)] [] m0 (f_X9_voice a0 x1 x2 x3 m0) := by
  unfold f_X9_voice
  refine g_aload_n C dX9_voice_0 0 rfl rfl ?_
  refine g_iload_n C dX9_voice_1 1 rfl rfl ?_
  refine g_callVi C cv_X9_isShop (ct_X9_isShop a0 x1 h0 m0) q_1011 h0 (by decide) rfl rfl (Nat.le_of_ble_eq_true rfl) dX9_voice_2 (fun r1 m2 => ?_)
  refine g_if_eq C 17 dX9_voice_5 (by decide) (fun _ => ?_) (fun _ => ?_)
  · refine g_sub [0] rfl ?_
    exact s_X9_voice_J17 C Rr a0 h0 m2
  · refine g_iload_n C dX9_voice_8 2 rfl rfl ?_
    refine g_iconst C (0 : Int32) dX9_voice_9 rfl ?_
    refine g_iconst C (3 : Int32) dX9_voice_10 rfl ?_
    refine g_callSi C cv_X9_in q_988 (ct_X9_in x2 (0 : Int32) (3 : Int32)  m2) q_987 (by decide) rfl rfl (Nat.le_of_ble_eq_true rfl) dX9_voice_11 (fun r3 m4 => ?_)
    refine g_if_ne C 23 dX9_voice_14 (by decide) (fun _ => ?_) (fun _ => ?_)
    · refine g_aload_n C dX9_voice_23 0 rfl rfl ?_
      refine g_iconst C (0 : Int32) dX9_voice_24 rfl ?_
      refine g_puti C 13 Fx9 h0 (by decide) rfl rfl rfl rfl q_932 dX9_voice_25 (fun m5 => ?_)
      refine g_aload_n C dX9_voice_28 0 rfl rfl ?_
      refine g_iload_n C dX9_voice_29 1 rfl rfl ?_
      refine g_puti C 14 Fx9 h0 (by decide) rfl rfl rfl rfl q_933 dX9_voice_30 (fun m6 => ?_)
      refine g_aload_n C dX9_voice_33 0 rfl rfl ?_
      refine g_iconst C (0 : Int32) dX9_voice_34 rfl ?_
      refine g_putZ (k := 15) C Fx9 h0 (by decide) rfl rfl rfl rfl q_934 dX9_voice_35 (fun m7 => ?_)
      refine g_aload_n C dX9_voice_38 0 rfl rfl ?_
      refine g_callVi C cv_X9_kindNow (ct_X9_kindNow a0 h0 m7) q_1289 h0 (by decide) rfl rfl (Nat.le_of_ble_eq_true rfl) dX9_voice_39 (fun r8 m9 => ?_)
      refine g_istore C dX9_voice_42 (by decide) rfl ?_
      refine g_iload_n C dX9_voice_44 3 rfl rfl ?_
      refine g_if_ne C 58 dX9_voice_45 (by decide) (fun _ => ?_) (fun _ => ?_)
      · refine g_iload_n C dX9_voice_58 3 rfl rfl ?_
        refine g_iconst C (1 : Int32) dX9_voice_59 rfl ?_
        refine g_icmp_ne C 73 dX9_voice_60 (by decide) (fun _ => ?_) (fun _ => ?_)
        · refine g_iload_n C dX9_voice_73 3 rfl rfl ?_
          refine g_iconst C (2 : Int32) dX9_voice_74 rfl ?_
          refine g_icmp_ne C 88 dX9_voice_75 (by decide) (fun _ => ?_) (fun _ => ?_)
          · refine g_aload_n C dX9_voice_88 1 rfl rfl ?_
            refine g_iload C dX9_voice_89 0 rfl ?_
            refine g_iload_n C dX9_voice_91 4 rfl rfl ?_
            refine g_callVi C cv_X9_partsBy (ct_X9_partsBy RF a0 r8 x3 h0 m9) q_1316 h0 (by decide) rfl rfl (Nat.le_of_ble_eq_true rfl) dX9_voice_92 (fun r10 m11 => ?_)
            refine g_sub [1] rfl ?_
            exact s_X9_voice_J95 C Rr a0 r10 h0 m11
          · refine g_aload_n C dX9_voice_78 1 rfl rfl ?_
            refine g_iload C dX9_voice_79 0 rfl ?_
            refine g_iload_n C dX9_voice_81 4 rfl rfl ?_
            refine g_callVi C cv_X9_owesBy (ct_X9_owesBy RF a0 r8 x3 h0 m9) q_1312 h0 (by decide) rfl rfl (Nat.le_of_ble_eq_true rfl) dX9_voice_82 (fun r12 m13 => ?_)
            refine g_goto C 95 dX9_voice_85 (by decide) ?_
            refine g_sub [1] rfl ?_
            exact s_X9_voice_J95 C Rr a0 r12 h0 m13
        · refine g_aload_n C dX9_voice_63 1 rfl rfl ?_
          refine g_iload C dX9_voice_64 0 rfl ?_
          refine g_iload_n C dX9_voice_66 4 rfl rfl ?_
          refine g_callVi C cv_X9_fillsBy (ct_X9_fillsBy RF a0 r8 x3 h0 m9) q_1304 h0 (by decide) rfl rfl (Nat.le_of_ble_eq_true rfl) dX9_voice_67 (fun r14 m15 => ?_)
          refine g_goto C 95 dX9_voice_70 (by decide) ?_
          refine g_sub [1] rfl ?_
          exact s_X9_voice_J95 C Rr a0 r14 h0 m15
      · refine g_aload_n C dX9_voice_48 1 rfl rfl ?_
        refine g_iload C dX9_voice_49 0 rfl ?_
        refine g_iload_n C dX9_voice_51 4 rfl rfl ?_
        refine g_callVi C cv_X9_sellsBy (ct_X9_sellsBy RF a0 r8 x3 h0 m9) q_1293 h0 (by decide) rfl rfl (Nat.le_of_ble_eq_true rfl) dX9_voice_52 (fun r16 m17 => ?_)
        refine g_goto C 95 dX9_voice_55 (by decide) ?_
        refine g_sub [1] rfl ?_
        exact s_X9_voice_J95 C Rr a0 r16 h0 m17
    · refine g_sub [0] rfl ?_
      exact s_X9_voice_J17 C Rr a0 h0 m4
theorem ct_X9_voice {Ω : OT} (a0 : Nat) (x1 : Int32) (x2 : Int32) (x3 : Int32) (h0 : tg a0 = 9) (m0 : Mem) : Ct Ω yX9_voice cX9_voice 6 (some .int) 129 [.ref (oF Ω a0), .int x1, .int x2, .int x3] m0 (f_X9_voice a0 x1 x2 x3 m0) := by
  refine Ct_of (by decide) (Nat.le_of_ble_eq_true rfl) ?_
  intro K hK C Rr
  subst hK
  exact s_X9_voice C Rr  a0 x1 x2 x3 h0 m0
def X9_body_J28   (xs0 : Int32) (m0 : Mem) : Res :=
  some (xs0, m0)
def f_X9_body  (a0 : Nat) (x1 : Int32) (m0 : Mem) : Res :=
  cal (f_X9_in x1 (0 : Int32) ((m0 a0 13) - (1 : Int32)) m0) (fun r1 m2 =>
  (if r1 = 0 then
  cal (f_X9_error a0 (2 : Int32) m2) (fun r3 m4 =>
  X9_body_J28 r3 m4)
  else
  gd (inb x1 30) (
  X9_body_J28 (m2 (a0 + 8) x1.toNatClampNeg) m2)))
set_option maxHeartbeats 2000000 in
theorem s_X9_body_J28 {K : KT}  (C : Cx K cX9_body RX9 2 2) (Rr : Rx K (some .int))    (xs0 : Int32)  (m0 : Mem) : G K 28 [] [.int xs0] m0 (X9_body_J28 xs0 m0) := by
  unfold X9_body_J28
  exact g_iret C Rr dX9_body_28
set_option maxHeartbeats 2000000 in
theorem s_X9_body {K : KT}  (C : Cx K cX9_body RX9 2 2) (Rr : Rx K (some .int))  (a0 : Nat) (x1 : Int32) (h0 : tg a0 = 9) (m0 : Mem) : G K 0 [(0, .ref (kf K a0)), (1, .int x1)] [] m0 (f_X9_body a0 x1 m0) := by
  unfold f_X9_body
  refine g_iload_n C dX9_body_0 1 rfl rfl ?_
  refine g_iconst C (0 : Int32) dX9_body_1 rfl ?_
  refine g_aload_n C dX9_body_2 0 rfl rfl ?_
  refine g_geti C 13 Fx9 h0 (by decide) rfl rfl q_932 dX9_body_3 ?_
  refine g_iconst C (1 : Int32) dX9_body_6 rfl ?_
  refine g_isub C dX9_body_7 ?_
  refine g_callSi C cv_X9_in q_988 (ct_X9_in x1 (0 : Int32) ((m0 a0 13) - (1 : Int32))  m0) q_987 (by decide) rfl rfl (Nat.le_of_ble_eq_true rfl) dX9_body_8 (fun r1 m2 => ?_)
  refine g_if_eq C 23 dX9_body_11 (by decide) (fun _ => ?_) (fun _ => ?_)
  · refine g_aload_n C dX9_body_23 0 rfl rfl ?_
    refine g_iconst C (2 : Int32) dX9_body_24 rfl ?_
    refine g_callVi C cv_X9_error (ct_X9_error a0 (2 : Int32) h0 m2) q_990 h0 (by decide) rfl rfl (Nat.le_of_ble_eq_true rfl) dX9_body_25 (fun r3 m4 => ?_)
    refine g_sub [] rfl ?_
    exact s_X9_body_J28 C Rr r3 m4
  · refine g_aload_n C dX9_body_14 0 rfl rfl ?_
    refine g_getr C 12 8 Fx9 h0 (by decide) rfl rfl q_931 dX9_body_15 ?_
    refine g_iload_n C dX9_body_18 1 rfl rfl ?_
    refine g_iald (n := 30) C (cl_9_12 h0) dX9_body_19 (fun _ => ?_)
    refine g_goto C 28 dX9_body_20 (by decide) ?_
    refine g_sub [] rfl ?_
    exact s_X9_body_J28 C Rr (m2 (a0 + 8) x1.toNatClampNeg) m2
theorem ct_X9_body {Ω : OT} (a0 : Nat) (x1 : Int32) (h0 : tg a0 = 9) (m0 : Mem) : Ct Ω yX9_body cX9_body 2 (some .int) 2 [.ref (oF Ω a0), .int x1] m0 (f_X9_body a0 x1 m0) := by
  refine Ct_of (by decide) (Nat.le_of_ble_eq_true rfl) ?_
  intro K hK C Rr
  subst hK
  exact s_X9_body C Rr  a0 x1 h0 m0
def f_X9_isSheet  (x0 : Int32) (m0 : Mem) : Res :=
  cal (f_X9_in x0 (0 : Int32) (3 : Int32) m0) (fun r1 m2 =>
  gd (isb r1) (some (r1, m2)))
set_option maxHeartbeats 2000000 in
theorem s_X9_isSheet {K : KT}  (C : Cx K cX9_isSheet RX9 1 2) (Rr : Rx K (some .boolean))  (x0 : Int32)  (m0 : Mem) : G K 0 [(0, .int x0)] [] m0 (f_X9_isSheet x0 m0) := by
  unfold f_X9_isSheet
  refine g_iload_n C dX9_isSheet_0 0 rfl rfl ?_
  refine g_iconst C (0 : Int32) dX9_isSheet_1 rfl ?_
  refine g_iconst C (3 : Int32) dX9_isSheet_2 rfl ?_
  refine g_callSi C cv_X9_in q_988 (ct_X9_in x0 (0 : Int32) (3 : Int32)  m0) q_987 (by decide) rfl rfl (Nat.le_of_ble_eq_true rfl) dX9_isSheet_3 (fun r1 m2 => ?_)
  exact g_zret C Rr dX9_isSheet_6
theorem ct_X9_isSheet {Ω : OT} (x0 : Int32)  (m0 : Mem) : Ct Ω yX9_isSheet cX9_isSheet 1 (some .boolean) 2 [.int x0] m0 (f_X9_isSheet x0 m0) := by
  refine Ct_of (by decide) (Nat.le_of_ble_eq_true rfl) ?_
  intro K hK C Rr
  subst hK
  exact s_X9_isSheet C Rr  x0 m0
def X9_sheet_J29   (a0 : Nat) (m0 : Mem) : Res :=
  cal (f_X9_error a0 (1 : Int32) m0) (fun r1 m2 =>
  some (r1, m2))
def X9_sheet_L90B  (k90 : Nat → Int32 → Int32 → Mem → Res) (a0 : Nat) (x1 : Int32) (x4 : Int32) (m0 : Mem) : Res :=
  (if (24 : Int32) ≤ x4 then
  some ((1 : Int32), m0)
  else
  gd (inb (((24 : Int32) * x1) + x4) 96) (bnd (mset m0 (a0 + 11) (((24 : Int32) * x1) + x4).toNatClampNeg (0 : Int32)) (fun m1 =>
  bnd (x4 + (1 : Int32)) (fun y2 =>
  k90 a0 x1 y2 m1))))
def X9_sheet_L90   : Nat → Nat → Int32 → Int32 → Mem → Res
  | 0 => fun _ _ _ _ => none
  | n + 1 => X9_sheet_L90B (X9_sheet_L90 n)
def X9_sheet_J86   (a0 : Nat) (x1 : Int32) (as0 : Nat) (xs1 : Int32) (xs2 : Int32) (m0 : Mem) : Res :=
  gd (inb xs1 4) (bnd (mset m0 as0 xs1.toNatClampNeg xs2) (fun m1 =>
  X9_sheet_L90 FU a0 x1 (0 : Int32) m1))
def X9_sheet_J65   (a0 : Nat) (x1 : Int32) (x2 : Int32) (x3 : Int32) (m0 : Mem) : Res :=
  gd (inb x1 4) (bnd (mset m0 (a0 + 9) x1.toNatClampNeg x2) (fun m1 =>
  (if x2 = 0 then
  X9_sheet_J86 a0 x1 (a0 + 10) x1 (0 : Int32) m1
  else
  X9_sheet_J86 a0 x1 (a0 + 10) x1 x3 m1)))
def X9_sheet_J49   (a0 : Nat) (x1 : Int32) (x2 : Int32) (x3 : Int32) (m0 : Mem) : Res :=
  (if x2 = 0 then
  X9_sheet_J65 a0 x1 x2 x3 m0
  else
  (if x3 ≤ (24 : Int32) then
  X9_sheet_J65 a0 x1 x2 x3 m0
  else
  cal (f_X9_error a0 (1 : Int32) m0) (fun r1 m2 =>
  some (r1, m2))))
def X9_sheet_J35   (a0 : Nat) (x1 : Int32) (x2 : Int32) (x3 : Int32) (m0 : Mem) : Res :=
  (if x2 = 0 then
  X9_sheet_J49 a0 x1 x2 x3 m0
  else
  (if 0 ≤ x3 then
  X9_sheet_J49 a0 x1 x2 x3 m0
  else
  cal (f_X9_error a0 (3 : Int32) m0) (fun r1 m2 =>
  some (r1, m2))))
def f_X9_sheet  (a0 : Nat) (x1 : Int32) (x2 : Int32) (x3 : Int32) (m0 : Mem) : Res :=
  cal (f_X9_isSheet x1 m0) (fun r1 m2 =>
  (if r1 = 0 then
  X9_sheet_J29 a0 m2
  else
  (if x2 = 0 then
  X9_sheet_J35 a0 x1 x2 x3 m2
  else
  (if x2 = (8 : Int32) then
  X9_sheet_J35 a0 x1 x2 x3 m2
  else
  (if x2 = (16 : Int32) then
  X9_sheet_J35 a0 x1 x2 x3 m2
  else
  (if x2 = (32 : Int32) then
  X9_sheet_J35 a0 x1 x2 x3 m2
  else
  X9_sheet_J29 a0 m2))))))
set_option maxHeartbeats 2000000 in
theorem s_X9_sheet_J29 {K : KT}  (C : Cx K cX9_sheet RX9 5 3) (Rr : Rx K (some .int))    (a0 : Nat) (h0 : tg a0 = 9) (m0 : Mem) : G K 29 [(0, .ref (kf K a0))] [] m0 (X9_sheet_J29 a0 m0) := by
  unfold X9_sheet_J29
  refine g_aload_n C dX9_sheet_29 0 rfl rfl ?_
  refine g_iconst C (1 : Int32) dX9_sheet_30 rfl ?_
  refine g_callVi C cv_X9_error (ct_X9_error a0 (1 : Int32) h0 m0) q_990 h0 (by decide) rfl rfl (Nat.le_of_ble_eq_true rfl) dX9_sheet_31 (fun r1 m2 => ?_)
  exact g_iret C Rr dX9_sheet_34
set_option maxHeartbeats 2000000 in
theorem s_X9_sheet_L90B {K : KT}  (C : Cx K cX9_sheet RX9 5 3) (Rr : Rx K (some .int))  {k90 : Nat → Int32 → Int32 → Mem → Res} (hk90 : ∀ (a0 : Nat) (x1 : Int32) (x4 : Int32) (h0 : tg a0 = 9) (m0 : Mem), G K 90 [(0, .ref (kf K a0)), (1, .int x1), (4, .int x4)] [] m0 (k90 a0 x1 x4 m0)) (a0 : Nat) (x1 : Int32) (x4 : Int32) (h0 : tg a0 = 9) (m0 : Mem) : G K 90 [(0, .ref (kf K a0)), (1, .int x1), (4, .int x4)] [] m0 (X9_sheet_L90B k90 a0 x1 x4 m0) := by
  unfold X9_sheet_L90B
  refine g_iload C dX9_sheet_90 2 rfl ?_
  refine g_bipush C (24 : Int32) dX9_sheet_92 rfl ?_
  refine g_icmp_ge C 116 dX9_sheet_94 (by decide) (fun _ => ?_) (fun _ => ?_)
  · refine g_iconst C (1 : Int32) dX9_sheet_116 rfl ?_
    exact g_iret C Rr dX9_sheet_117
  · refine g_aload_n C dX9_sheet_97 0 rfl rfl ?_
    refine g_getr C 18 11 Fx9 h0 (by decide) rfl rfl q_937 dX9_sheet_98 ?_
    refine g_bipush C (24 : Int32) dX9_sheet_101 rfl ?_
    refine g_iload_n C dX9_sheet_103 1 rfl rfl ?_
    refine g_imul C dX9_sheet_104 ?_
    refine g_iload C dX9_sheet_105 2 rfl ?_
    refine g_iadd C dX9_sheet_107 ?_
    refine g_iconst C (0 : Int32) dX9_sheet_108 rfl ?_
    refine g_iast (n := 96) C (cl_9_18 h0) dX9_sheet_109 (fun m1 => ?_)
    refine g_iinc (k := 2) C dX9_sheet_110 rfl (w := (1 : Int32)) rfl (by decide) (fun v_ => [(4, .int v_), (0, .ref (kf K a0)), (1, .int x1)]) (fun _ => rfl) (fun y2 => ?_)
    refine g_goto C 90 dX9_sheet_113 (by decide) ?_
    refine g_sub [1, 2, 0] rfl ?_
    exact hk90 a0 x1 y2 h0 m1
theorem s_X9_sheet_L90 {K : KT}  (C : Cx K cX9_sheet RX9 5 3) (Rr : Rx K (some .int))    : ∀ (n : Nat) (a0 : Nat) (x1 : Int32) (x4 : Int32) (h0 : tg a0 = 9) (m0 : Mem), G K 90 [(0, .ref (kf K a0)), (1, .int x1), (4, .int x4)] [] m0 (X9_sheet_L90 n a0 x1 x4 m0) := by
  intro n
  induction n with
  | zero => intros; exact g_none
  | succ n ih =>
    intro a0 x1 x4 h0 m0
    exact s_X9_sheet_L90B C Rr  ih a0 x1 x4 h0 m0
set_option maxHeartbeats 2000000 in
theorem s_X9_sheet_J86 {K : KT}  (C : Cx K cX9_sheet RX9 5 3) (Rr : Rx K (some .int))    (a0 : Nat) (x1 : Int32) (as0 : Nat) (xs1 : Int32) (xs2 : Int32) (h0 : tg a0 = 9) (hs0 : tg as0 = 100 + 4) (m0 : Mem) : G K 86 [(0, .ref (kf K a0)), (1, .int x1)] [.int xs2, .int xs1, .ref (kf K as0)] m0 (X9_sheet_J86 a0 x1 as0 xs1 xs2 m0) := by
  unfold X9_sheet_J86
  refine g_iast (n := 4) C hs0 dX9_sheet_86 (fun m1 => ?_)
  refine g_iconst C (0 : Int32) dX9_sheet_87 rfl ?_
  refine g_istore C dX9_sheet_88 (by decide) rfl ?_
  refine g_sub [1, 2, 0] rfl ?_
  exact s_X9_sheet_L90 C Rr FU a0 x1 (0 : Int32) h0 m1
set_option maxHeartbeats 2000000 in
theorem s_X9_sheet_J65 {K : KT}  (C : Cx K cX9_sheet RX9 5 3) (Rr : Rx K (some .int))    (a0 : Nat) (x1 : Int32) (x2 : Int32) (x3 : Int32) (h0 : tg a0 = 9) (m0 : Mem) : G K 65 [(0, .ref (kf K a0)), (1, .int x1), (2, .int x2), (3, .int x3)] [] m0 (X9_sheet_J65 a0 x1 x2 x3 m0) := by
  unfold X9_sheet_J65
  refine g_aload_n C dX9_sheet_65 0 rfl rfl ?_
  refine g_getr C 16 9 Fx9 h0 (by decide) rfl rfl q_935 dX9_sheet_66 ?_
  refine g_iload_n C dX9_sheet_69 1 rfl rfl ?_
  refine g_iload_n C dX9_sheet_70 2 rfl rfl ?_
  refine g_iast (n := 4) C (cl_9_16 h0) dX9_sheet_71 (fun m1 => ?_)
  refine g_aload_n C dX9_sheet_72 0 rfl rfl ?_
  refine g_getr C 17 10 Fx9 h0 (by decide) rfl rfl q_936 dX9_sheet_73 ?_
  refine g_iload_n C dX9_sheet_76 1 rfl rfl ?_
  refine g_iload_n C dX9_sheet_77 2 rfl rfl ?_
  refine g_if_ne C 85 dX9_sheet_78 (by decide) (fun _ => ?_) (fun _ => ?_)
  · refine g_iload_n C dX9_sheet_85 3 rfl rfl ?_
    refine g_sub [0, 1] rfl ?_
    exact s_X9_sheet_J86 C Rr a0 x1 (a0 + 10) x1 x3 h0 (cl_9_17 h0) m1
  · refine g_iconst C (0 : Int32) dX9_sheet_81 rfl ?_
    refine g_goto C 86 dX9_sheet_82 (by decide) ?_
    refine g_sub [0, 1] rfl ?_
    exact s_X9_sheet_J86 C Rr a0 x1 (a0 + 10) x1 (0 : Int32) h0 (cl_9_17 h0) m1
set_option maxHeartbeats 2000000 in
theorem s_X9_sheet_J49 {K : KT}  (C : Cx K cX9_sheet RX9 5 3) (Rr : Rx K (some .int))    (a0 : Nat) (x1 : Int32) (x2 : Int32) (x3 : Int32) (h0 : tg a0 = 9) (m0 : Mem) : G K 49 [(0, .ref (kf K a0)), (1, .int x1), (2, .int x2), (3, .int x3)] [] m0 (X9_sheet_J49 a0 x1 x2 x3 m0) := by
  unfold X9_sheet_J49
  refine g_iload_n C dX9_sheet_49 2 rfl rfl ?_
  refine g_if_eq C 65 dX9_sheet_50 (by decide) (fun _ => ?_) (fun _ => ?_)
  · refine g_sub [0, 1, 2, 3] rfl ?_
    exact s_X9_sheet_J65 C Rr a0 x1 x2 x3 h0 m0
  · refine g_iload_n C dX9_sheet_53 3 rfl rfl ?_
    refine g_bipush C (24 : Int32) dX9_sheet_54 rfl ?_
    refine g_icmp_le C 65 dX9_sheet_56 (by decide) (fun _ => ?_) (fun _ => ?_)
    · refine g_sub [0, 1, 2, 3] rfl ?_
      exact s_X9_sheet_J65 C Rr a0 x1 x2 x3 h0 m0
    · refine g_aload_n C dX9_sheet_59 0 rfl rfl ?_
      refine g_iconst C (1 : Int32) dX9_sheet_60 rfl ?_
      refine g_callVi C cv_X9_error (ct_X9_error a0 (1 : Int32) h0 m0) q_990 h0 (by decide) rfl rfl (Nat.le_of_ble_eq_true rfl) dX9_sheet_61 (fun r1 m2 => ?_)
      exact g_iret C Rr dX9_sheet_64
set_option maxHeartbeats 2000000 in
theorem s_X9_sheet_J35 {K : KT}  (C : Cx K cX9_sheet RX9 5 3) (Rr : Rx K (some .int))    (a0 : Nat) (x1 : Int32) (x2 : Int32) (x3 : Int32) (h0 : tg a0 = 9) (m0 : Mem) : G K 35 [(0, .ref (kf K a0)), (1, .int x1), (2, .int x2), (3, .int x3)] [] m0 (X9_sheet_J35 a0 x1 x2 x3 m0) := by
  unfold X9_sheet_J35
  refine g_iload_n C dX9_sheet_35 2 rfl rfl ?_
  refine g_if_eq C 49 dX9_sheet_36 (by decide) (fun _ => ?_) (fun _ => ?_)
  · refine g_sub [0, 1, 2, 3] rfl ?_
    exact s_X9_sheet_J49 C Rr a0 x1 x2 x3 h0 m0
  · refine g_iload_n C dX9_sheet_39 3 rfl rfl ?_
    refine g_if_ge C 49 dX9_sheet_40 (by decide) (fun _ => ?_) (fun _ => ?_)
    · refine g_sub [0, 1, 2, 3] rfl ?_
      exact s_X9_sheet_J49 C Rr a0 x1 x2 x3 h0 m0
    · refine g_aload_n C dX9_sheet_43 0 rfl rfl ?_
      refine g_iconst C (3 : Int32) dX9_sheet_44 rfl ?_
      refine g_callVi C cv_X9_error (ct_X9_error a0 (3 : Int32) h0 m0) q_990 h0 (by decide) rfl rfl (Nat.le_of_ble_eq_true rfl) dX9_sheet_45 (fun r1 m2 => ?_)
      exact g_iret C Rr dX9_sheet_48
set_option maxHeartbeats 2000000 in
theorem s_X9_sheet {K : KT}  (C : Cx K cX9_sheet RX9 5 3) (Rr : Rx K (some .int))  (a0 : Nat) (x1 : Int32) (x2 : Int32) (x3 : Int32) (h0 : tg a0 = 9) (m0 : Mem) : G K 0 [(0, .ref (kf K a0)), (1, .int x1), (2, .int x2), (3, .int x3)] [] m0 (f_X9_sheet a0 x1 x2 x3 m0) := by
  unfold f_X9_sheet
  refine g_iload_n C dX9_sheet_0 1 rfl rfl ?_
  refine g_callSi C cv_X9_isSheet q_1329 (ct_X9_isSheet x1  m0) q_1328 (by decide) rfl rfl (Nat.le_of_ble_eq_true rfl) dX9_sheet_1 (fun r1 m2 => ?_)
  refine g_if_eq C 29 dX9_sheet_4 (by decide) (fun _ => ?_) (fun _ => ?_)
  · refine g_sub [0] rfl ?_
    exact s_X9_sheet_J29 C Rr a0 h0 m2
  · refine g_iload_n C dX9_sheet_7 2 rfl rfl ?_
    refine g_if_eq C 35 dX9_sheet_8 (by decide) (fun _ => ?_) (fun _ => ?_)
    · refine g_sub [0, 1, 2, 3] rfl ?_
      exact s_X9_sheet_J35 C Rr a0 x1 x2 x3 h0 m2
    · refine g_iload_n C dX9_sheet_11 2 rfl rfl ?_
      refine g_bipush C (8 : Int32) dX9_sheet_12 rfl ?_
      refine g_icmp_eq C 35 dX9_sheet_14 (by decide) (fun _ => ?_) (fun _ => ?_)
      · refine g_sub [0, 1, 2, 3] rfl ?_
        exact s_X9_sheet_J35 C Rr a0 x1 x2 x3 h0 m2
      · refine g_iload_n C dX9_sheet_17 2 rfl rfl ?_
        refine g_bipush C (16 : Int32) dX9_sheet_18 rfl ?_
        refine g_icmp_eq C 35 dX9_sheet_20 (by decide) (fun _ => ?_) (fun _ => ?_)
        · refine g_sub [0, 1, 2, 3] rfl ?_
          exact s_X9_sheet_J35 C Rr a0 x1 x2 x3 h0 m2
        · refine g_iload_n C dX9_sheet_23 2 rfl rfl ?_
          refine g_bipush C (32 : Int32) dX9_sheet_24 rfl ?_
          refine g_icmp_eq C 35 dX9_sheet_26 (by decide) (fun _ => ?_) (fun _ => ?_)
          · refine g_sub [0, 1, 2, 3] rfl ?_
            exact s_X9_sheet_J35 C Rr a0 x1 x2 x3 h0 m2
          · refine g_sub [0] rfl ?_
            exact s_X9_sheet_J29 C Rr a0 h0 m2
theorem ct_X9_sheet {Ω : OT} (a0 : Nat) (x1 : Int32) (x2 : Int32) (x3 : Int32) (h0 : tg a0 = 9) (m0 : Mem) : Ct Ω yX9_sheet cX9_sheet 5 (some .int) 3 [.ref (oF Ω a0), .int x1, .int x2, .int x3] m0 (f_X9_sheet a0 x1 x2 x3 m0) := by
  refine Ct_of (by decide) (Nat.le_of_ble_eq_true rfl) ?_
  intro K hK C Rr
  subst hK
  exact s_X9_sheet C Rr  a0 x1 x2 x3 h0 m0
def f_X9_put  (a0 : Nat) (x1 : Int32) (x2 : Int32) (x3 : Int32) (m0 : Mem) : Res :=
  cal (f_X9_isSheet x1 m0) (fun r1 m2 =>
  (if r1 = 0 then
  cal (f_X9_error a0 (1 : Int32) m2) (fun r11 m12 =>
  some (r11, m12))
  else
  gd (inb x1 4) (
  (if (m2 (a0 + 9) x1.toNatClampNeg) = 0 then
  cal (f_X9_error a0 (2 : Int32) m2) (fun r9 m10 =>
  some (r9, m10))
  else
  gd (inb x1 4) (
  cal (f_X9_in x2 (0 : Int32) ((m2 (a0 + 10) x1.toNatClampNeg) - (1 : Int32)) m2) (fun r3 m4 =>
  (if r3 = 0 then
  cal (f_X9_error a0 (1 : Int32) m4) (fun r7 m8 =>
  some (r7, m8))
  else
  gd (inb x1 4) (
  bnd ((32 : Int32) - (m4 (a0 + 9) x1.toNatClampNeg)) (fun y5 =>
  gd (inb (((24 : Int32) * x1) + x2) 96) (bnd (mset m4 (a0 + 11) (((24 : Int32) * x1) + x2).toNatClampNeg (isr (isl x3 y5) y5)) (fun m6 =>
  some ((1 : Int32), m6))))))))))))
set_option maxHeartbeats 2000000 in
theorem s_X9_put {K : KT}  (C : Cx K cX9_put RX9 5 3) (Rr : Rx K (some .int))  (a0 : Nat) (x1 : Int32) (x2 : Int32) (x3 : Int32) (h0 : tg a0 = 9) (m0 : Mem) : G K 0 [(0, .ref (kf K a0)), (1, .int x1), (2, .int x2), (3, .int x3)] [] m0 (f_X9_put a0 x1 x2 x3 m0) := by
  unfold f_X9_put
  refine g_iload_n C dX9_put_0 1 rfl rfl ?_
  refine g_callSi C cv_X9_isSheet q_1329 (ct_X9_isSheet x1  m0) q_1328 (by decide) rfl rfl (Nat.le_of_ble_eq_true rfl) dX9_put_1 (fun r1 m2 => ?_)
  refine g_if_ne C 13 dX9_put_4 (by decide) (fun _ => ?_) (fun _ => ?_)
  · refine g_aload_n C dX9_put_13 0 rfl rfl ?_
    refine g_getr C 16 9 Fx9 h0 (by decide) rfl rfl q_935 dX9_put_14 ?_
    refine g_iload_n C dX9_put_17 1 rfl rfl ?_
    refine g_iald (n := 4) C (cl_9_16 h0) dX9_put_18 (fun _ => ?_)
    refine g_if_ne C 28 dX9_put_19 (by decide) (fun _ => ?_) (fun _ => ?_)
    · refine g_iload_n C dX9_put_28 2 rfl rfl ?_
      refine g_iconst C (0 : Int32) dX9_put_29 rfl ?_
      refine g_aload_n C dX9_put_30 0 rfl rfl ?_
      refine g_getr C 17 10 Fx9 h0 (by decide) rfl rfl q_936 dX9_put_31 ?_
      refine g_iload_n C dX9_put_34 1 rfl rfl ?_
      refine g_iald (n := 4) C (cl_9_17 h0) dX9_put_35 (fun _ => ?_)
      refine g_iconst C (1 : Int32) dX9_put_36 rfl ?_
      refine g_isub C dX9_put_37 ?_
      refine g_callSi C cv_X9_in q_988 (ct_X9_in x2 (0 : Int32) ((m2 (a0 + 10) x1.toNatClampNeg) - (1 : Int32))  m2) q_987 (by decide) rfl rfl (Nat.le_of_ble_eq_true rfl) dX9_put_38 (fun r3 m4 => ?_)
      refine g_if_ne C 50 dX9_put_41 (by decide) (fun _ => ?_) (fun _ => ?_)
      · refine g_bipush C (32 : Int32) dX9_put_50 rfl ?_
        refine g_aload_n C dX9_put_52 0 rfl rfl ?_
        refine g_getr C 16 9 Fx9 h0 (by decide) rfl rfl q_935 dX9_put_53 ?_
        refine g_iload_n C dX9_put_56 1 rfl rfl ?_
        refine g_iald (n := 4) C (cl_9_16 h0) dX9_put_57 (fun _ => ?_)
        refine g_isub C dX9_put_58 ?_
        refine g_bnd (fun y5 => ?_)
        refine g_istore C dX9_put_59 (by decide) rfl ?_
        refine g_aload_n C dX9_put_61 1 rfl rfl ?_
        refine g_getr C 18 11 Fx9 h0 (by decide) rfl rfl q_937 dX9_put_62 ?_
        refine g_bipush C (24 : Int32) dX9_put_65 rfl ?_
        refine g_iload_n C dX9_put_67 2 rfl rfl ?_
        refine g_imul C dX9_put_68 ?_
        refine g_iload_n C dX9_put_69 3 rfl rfl ?_
        refine g_iadd C dX9_put_70 ?_
        refine g_iload_n C dX9_put_71 4 rfl rfl ?_
        refine g_iload C dX9_put_72 0 rfl ?_
        refine g_ishl C dX9_put_74 ?_
        refine g_iload C dX9_put_75 0 rfl ?_
        refine g_ishr C dX9_put_77 ?_
        refine g_iast (n := 96) C (cl_9_18 h0) dX9_put_78 (fun m6 => ?_)
        refine g_iconst C (1 : Int32) dX9_put_79 rfl ?_
        exact g_iret C Rr dX9_put_80
      · refine g_aload_n C dX9_put_44 0 rfl rfl ?_
        refine g_iconst C (1 : Int32) dX9_put_45 rfl ?_
        refine g_callVi C cv_X9_error (ct_X9_error a0 (1 : Int32) h0 m4) q_990 h0 (by decide) rfl rfl (Nat.le_of_ble_eq_true rfl) dX9_put_46 (fun r7 m8 => ?_)
        exact g_iret C Rr dX9_put_49
    · refine g_aload_n C dX9_put_22 0 rfl rfl ?_
      refine g_iconst C (2 : Int32) dX9_put_23 rfl ?_
      refine g_callVi C cv_X9_error (ct_X9_error a0 (2 : Int32) h0 m2) q_990 h0 (by decide) rfl rfl (Nat.le_of_ble_eq_true rfl) dX9_put_24 (fun r9 m10 => ?_)
      exact g_iret C Rr dX9_put_27
  · refine g_aload_n C dX9_put_7 0 rfl rfl ?_
    refine g_iconst C (1 : Int32) dX9_put_8 rfl ?_
    refine g_callVi C cv_X9_error (ct_X9_error a0 (1 : Int32) h0 m2) q_990 h0 (by decide) rfl rfl (Nat.le_of_ble_eq_true rfl) dX9_put_9 (fun r11 m12 => ?_)
    exact g_iret C Rr dX9_put_12
theorem ct_X9_put {Ω : OT} (a0 : Nat) (x1 : Int32) (x2 : Int32) (x3 : Int32) (h0 : tg a0 = 9) (m0 : Mem) : Ct Ω yX9_put cX9_put 5 (some .int) 3 [.ref (oF Ω a0), .int x1, .int x2, .int x3] m0 (f_X9_put a0 x1 x2 x3 m0) := by
  refine Ct_of (by decide) (Nat.le_of_ble_eq_true rfl) ?_
  intro K hK C Rr
  subst hK
  exact s_X9_put C Rr  a0 x1 x2 x3 h0 m0
def X9_move_J14   (a0 : Nat) (m0 : Mem) : Res :=
  cal (f_X9_error a0 (1 : Int32) m0) (fun r1 m2 =>
  some (r1, m2))
def X9_move_J38   (a0 : Nat) (m0 : Mem) : Res :=
  cal (f_X9_error a0 (2 : Int32) m0) (fun r1 m2 =>
  some (r1, m2))
def X9_move_J106   (a0 : Nat) (m0 : Mem) : Res :=
  cal (f_X9_error a0 (1 : Int32) m0) (fun r1 m2 =>
  some (r1, m2))
def X9_move_L152B  (k152 : Nat → Int32 → Int32 → Int32 → Int32 → Mem → Res) (a0 : Nat) (x3 : Int32) (x4 : Int32) (x5 : Int32) (x6 : Int32) (m0 : Mem) : Res :=
  (if x5 ≤ x6 then
  some (x5, m0)
  else
  gd (inb x6 24) (
  gd (inb ((((24 : Int32) * x3) + x4) + x6) 96) (bnd (mset m0 (a0 + 11) ((((24 : Int32) * x3) + x4) + x6).toNatClampNeg (m0 (a0 + 12) x6.toNatClampNeg)) (fun m1 =>
  bnd (x6 + (1 : Int32)) (fun y2 =>
  k152 a0 x3 x4 x5 y2 m1)))))
def X9_move_L152   : Nat → Nat → Int32 → Int32 → Int32 → Int32 → Mem → Res
  | 0 => fun _ _ _ _ _ _ => none
  | n + 1 => X9_move_L152B (X9_move_L152 n)
def X9_move_L115B  (k115 : Nat → Int32 → Int32 → Int32 → Int32 → Int32 → Int32 → Mem → Res) (a0 : Nat) (x1 : Int32) (x2 : Int32) (x3 : Int32) (x4 : Int32) (x5 : Int32) (x6 : Int32) (m0 : Mem) : Res :=
  (if x5 ≤ x6 then
  X9_move_L152 FU a0 x3 x4 x5 (0 : Int32) m0
  else
  gd (inb ((((24 : Int32) * x1) + x2) + x6) 96) (
  gd (inb x6 24) (bnd (mset m0 (a0 + 12) x6.toNatClampNeg (m0 (a0 + 11) ((((24 : Int32) * x1) + x2) + x6).toNatClampNeg)) (fun m1 =>
  bnd (x6 + (1 : Int32)) (fun y2 =>
  k115 a0 x1 x2 x3 x4 x5 y2 m1)))))
def X9_move_L115   : Nat → Nat → Int32 → Int32 → Int32 → Int32 → Int32 → Int32 → Mem → Res
  | 0 => fun _ _ _ _ _ _ _ _ => none
  | n + 1 => X9_move_L115B (X9_move_L115 n)
def f_X9_move  (a0 : Nat) (x1 : Int32) (x2 : Int32) (x3 : Int32) (x4 : Int32) (x5 : Int32) (m0 : Mem) : Res :=
  cal (f_X9_isSheet x1 m0) (fun r1 m2 =>
  (if r1 = 0 then
  X9_move_J14 a0 m2
  else
  cal (f_X9_isSheet x3 m2) (fun r3 m4 =>
  (if r3 = 0 then
  X9_move_J14 a0 m4
  else
  gd (inb x1 4) (
  (if (m4 (a0 + 9) x1.toNatClampNeg) = 0 then
  X9_move_J38 a0 m4
  else
  gd (inb x3 4) (
  (if (m4 (a0 + 9) x3.toNatClampNeg) = 0 then
  X9_move_J38 a0 m4
  else
  gd (inb x1 4) (
  gd (inb x3 4) (
  (if (m4 (a0 + 9) x1.toNatClampNeg) = (m4 (a0 + 9) x3.toNatClampNeg) then
  (if x5 < 0 then
  X9_move_J106 a0 m4
  else
  (if x2 < 0 then
  X9_move_J106 a0 m4
  else
  (if x4 < 0 then
  X9_move_J106 a0 m4
  else
  gd (inb x1 4) (
  (if ((m4 (a0 + 10) x1.toNatClampNeg) - x5) < x2 then
  X9_move_J106 a0 m4
  else
  gd (inb x3 4) (
  (if x4 ≤ ((m4 (a0 + 10) x3.toNatClampNeg) - x5) then
  X9_move_L115 FU a0 x1 x2 x3 x4 x5 (0 : Int32) m4
  else
  X9_move_J106 a0 m4)))))))
  else
  cal (f_X9_error a0 (5 : Int32) m4) (fun r5 m6 =>
  some (r5, m6)))))))))))))
set_option maxHeartbeats 2000000 in
theorem s_X9_move_J14 {K : KT}  (C : Cx K cX9_move RX9 7 3) (Rr : Rx K (some .int))    (a0 : Nat) (h0 : tg a0 = 9) (m0 : Mem) : G K 14 [(0, .ref (kf K a0))] [] m0 (X9_move_J14 a0 m0) := by
  unfold X9_move_J14
  refine g_aload_n C dX9_move_14 0 rfl rfl ?_
  refine g_iconst C (1 : Int32) dX9_move_15 rfl ?_
  refine g_callVi C cv_X9_error (ct_X9_error a0 (1 : Int32) h0 m0) q_990 h0 (by decide) rfl rfl (Nat.le_of_ble_eq_true rfl) dX9_move_16 (fun r1 m2 => ?_)
  exact g_iret C Rr dX9_move_19
set_option maxHeartbeats 2000000 in
theorem s_X9_move_J38 {K : KT}  (C : Cx K cX9_move RX9 7 3) (Rr : Rx K (some .int))    (a0 : Nat) (h0 : tg a0 = 9) (m0 : Mem) : G K 38 [(0, .ref (kf K a0))] [] m0 (X9_move_J38 a0 m0) := by
  unfold X9_move_J38
  refine g_aload_n C dX9_move_38 0 rfl rfl ?_
  refine g_iconst C (2 : Int32) dX9_move_39 rfl ?_
  refine g_callVi C cv_X9_error (ct_X9_error a0 (2 : Int32) h0 m0) q_990 h0 (by decide) rfl rfl (Nat.le_of_ble_eq_true rfl) dX9_move_40 (fun r1 m2 => ?_)
  exact g_iret C Rr dX9_move_43
set_option maxHeartbeats 2000000 in
theorem s_X9_move_J106 {K : KT}  (C : Cx K cX9_move RX9 7 3) (Rr : Rx K (some .int))    (a0 : Nat) (h0 : tg a0 = 9) (m0 : Mem) : G K 106 [(0, .ref (kf K a0))] [] m0 (X9_move_J106 a0 m0) := by
  unfold X9_move_J106
  refine g_aload_n C dX9_move_106 0 rfl rfl ?_
  refine g_iconst C (1 : Int32) dX9_move_107 rfl ?_
  refine g_callVi C cv_X9_error (ct_X9_error a0 (1 : Int32) h0 m0) q_990 h0 (by decide) rfl rfl (Nat.le_of_ble_eq_true rfl) dX9_move_108 (fun r1 m2 => ?_)
  exact g_iret C Rr dX9_move_111
set_option maxHeartbeats 2000000 in
theorem s_X9_move_L152B {K : KT}  (C : Cx K cX9_move RX9 7 3) (Rr : Rx K (some .int))  {k152 : Nat → Int32 → Int32 → Int32 → Int32 → Mem → Res} (hk152 : ∀ (a0 : Nat) (x3 : Int32) (x4 : Int32) (x5 : Int32) (x6 : Int32) (h0 : tg a0 = 9) (m0 : Mem), G K 152 [(0, .ref (kf K a0)), (3, .int x3), (4, .int x4), (5, .int x5), (6, .int x6)] [] m0 (k152 a0 x3 x4 x5 x6 m0)) (a0 : Nat) (x3 : Int32) (x4 : Int32) (x5 : Int32) (x6 : Int32) (h0 : tg a0 = 9) (m0 : Mem) : G K 152 [(0, .ref (kf K a0)), (3, .int x3), (4, .int x4), (5, .int x5), (6, .int x6)] [] m0 (X9_move_L152B k152 a0 x3 x4 x5 x6 m0) := by
  unfold X9_move_L152B
  refine g_iload C dX9_move_152 4 rfl ?_
  refine g_iload C dX9_move_154 3 rfl ?_
  refine g_icmp_ge C 187 dX9_move_156 (by decide) (fun _ => ?_) (fun _ => ?_)
  · refine g_iload C dX9_move_187 3 rfl ?_
    exact g_iret C Rr dX9_move_189
  · refine g_aload_n C dX9_move_159 0 rfl rfl ?_
    refine g_getr C 18 11 Fx9 h0 (by decide) rfl rfl q_937 dX9_move_160 ?_
    refine g_bipush C (24 : Int32) dX9_move_163 rfl ?_
    refine g_iload_n C dX9_move_165 1 rfl rfl ?_
    refine g_imul C dX9_move_166 ?_
    refine g_iload C dX9_move_167 2 rfl ?_
    refine g_iadd C dX9_move_169 ?_
    refine g_iload C dX9_move_170 4 rfl ?_
    refine g_iadd C dX9_move_172 ?_
    refine g_aload_n C dX9_move_173 0 rfl rfl ?_
    refine g_getr C 19 12 Fx9 h0 (by decide) rfl rfl q_938 dX9_move_174 ?_
    refine g_iload C dX9_move_177 4 rfl ?_
    refine g_iald (n := 24) C (cl_9_19 h0) dX9_move_179 (fun _ => ?_)
    refine g_iast (n := 96) C (cl_9_18 h0) dX9_move_180 (fun m1 => ?_)
    refine g_iinc (k := 4) C dX9_move_181 rfl (w := (1 : Int32)) rfl (by decide) (fun v_ => [(6, .int v_), (0, .ref (kf K a0)), (3, .int x3), (4, .int x4), (5, .int x5)]) (fun _ => rfl) (fun y2 => ?_)
    refine g_goto C 152 dX9_move_184 (by decide) ?_
    refine g_sub [1, 2, 3, 4, 0] rfl ?_
    exact hk152 a0 x3 x4 x5 y2 h0 m1
theorem s_X9_move_L152 {K : KT}  (C : Cx K cX9_move RX9 7 3) (Rr : Rx K (some .int))    : ∀ (n : Nat) (a0 : Nat) (x3 : Int32) (x4 : Int32) (x5 : Int32) (x6 : Int32) (h0 : tg a0 = 9) (m0 : Mem), G K 152 [(0, .ref (kf K a0)), (3, .int x3), (4, .int x4), (5, .int x5), (6, .int x6)] [] m0 (X9_move_L152 n a0 x3 x4 x5 x6 m0) := by
  intro n
  induction n with
  | zero => intros; exact g_none
  | succ n ih =>
    intro a0 x3 x4 x5 x6 h0 m0
    exact s_X9_move_L152B C Rr  ih a0 x3 x4 x5 x6 h0 m0
set_option maxHeartbeats 2000000 in
theorem s_X9_move_L115B {K : KT}  (C : Cx K cX9_move RX9 7 3) (Rr : Rx K (some .int))  {k115 : Nat → Int32 → Int32 → Int32 → Int32 → Int32 → Int32 → Mem → Res} (hk115 : ∀ (a0 : Nat) (x1 : Int32) (x2 : Int32) (x3 : Int32) (x4 : Int32) (x5 : Int32) (x6 : Int32) (h0 : tg a0 = 9) (m0 : Mem), G K 115 [(0, .ref (kf K a0)), (1, .int x1), (2, .int x2), (3, .int x3), (4, .int x4), (5, .int x5), (6, .int x6)] [] m0 (k115 a0 x1 x2 x3 x4 x5 x6 m0)) (a0 : Nat) (x1 : Int32) (x2 : Int32) (x3 : Int32) (x4 : Int32) (x5 : Int32) (x6 : Int32) (h0 : tg a0 = 9) (m0 : Mem) : G K 115 [(0, .ref (kf K a0)), (1, .int x1), (2, .int x2), (3, .int x3), (4, .int x4), (5, .int x5), (6, .int x6)] [] m0 (X9_move_L115B k115 a0 x1 x2 x3 x4 x5 x6 m0) := by
  unfold X9_move_L115B
  refine g_iload C dX9_move_115 6 rfl ?_
  refine g_iload C dX9_move_117 5 rfl ?_
  refine g_icmp_ge C 149 dX9_move_119 (by decide) (fun _ => ?_) (fun _ => ?_)
  · refine g_iconst C (0 : Int32) dX9_move_149 rfl ?_
    refine g_istore C dX9_move_150 (by decide) rfl ?_
    refine g_sub [1, 4, 5, 6, 0] rfl ?_
    exact s_X9_move_L152 C Rr FU a0 x3 x4 x5 (0 : Int32) h0 m0
  · refine g_aload_n C dX9_move_122 0 rfl rfl ?_
    refine g_getr C 19 12 Fx9 h0 (by decide) rfl rfl q_938 dX9_move_123 ?_
    refine g_iload C dX9_move_126 6 rfl ?_
    refine g_aload_n C dX9_move_128 0 rfl rfl ?_
    refine g_getr C 18 11 Fx9 h0 (by decide) rfl rfl q_937 dX9_move_129 ?_
    refine g_bipush C (24 : Int32) dX9_move_132 rfl ?_
    refine g_iload_n C dX9_move_134 1 rfl rfl ?_
    refine g_imul C dX9_move_135 ?_
    refine g_iload_n C dX9_move_136 2 rfl rfl ?_
    refine g_iadd C dX9_move_137 ?_
    refine g_iload C dX9_move_138 6 rfl ?_
    refine g_iadd C dX9_move_140 ?_
    refine g_iald (n := 96) C (cl_9_18 h0) dX9_move_141 (fun _ => ?_)
    refine g_iast (n := 24) C (cl_9_19 h0) dX9_move_142 (fun m1 => ?_)
    refine g_iinc (k := 6) C dX9_move_143 rfl (w := (1 : Int32)) rfl (by decide) (fun v_ => [(6, .int v_), (0, .ref (kf K a0)), (1, .int x1), (2, .int x2), (3, .int x3), (4, .int x4), (5, .int x5)]) (fun _ => rfl) (fun y2 => ?_)
    refine g_goto C 115 dX9_move_146 (by decide) ?_
    refine g_sub [1, 2, 3, 4, 5, 6, 0] rfl ?_
    exact hk115 a0 x1 x2 x3 x4 x5 y2 h0 m1
theorem s_X9_move_L115 {K : KT}  (C : Cx K cX9_move RX9 7 3) (Rr : Rx K (some .int))    : ∀ (n : Nat) (a0 : Nat) (x1 : Int32) (x2 : Int32) (x3 : Int32) (x4 : Int32) (x5 : Int32) (x6 : Int32) (h0 : tg a0 = 9) (m0 : Mem), G K 115 [(0, .ref (kf K a0)), (1, .int x1), (2, .int x2), (3, .int x3), (4, .int x4), (5, .int x5), (6, .int x6)] [] m0 (X9_move_L115 n a0 x1 x2 x3 x4 x5 x6 m0) := by
  intro n
  induction n with
  | zero => intros; exact g_none
  | succ n ih =>
    intro a0 x1 x2 x3 x4 x5 x6 h0 m0
    exact s_X9_move_L115B C Rr  ih a0 x1 x2 x3 x4 x5 x6 h0 m0
set_option maxHeartbeats 2000000 in
theorem s_X9_move {K : KT}  (C : Cx K cX9_move RX9 7 3) (Rr : Rx K (some .int))  (a0 : Nat) (x1 : Int32) (x2 : Int32) (x3 : Int32) (x4 : Int32) (x5 : Int32) (h0 : tg a0 = 9) (m0 : Mem) : G K 0 [(0, .ref (kf K a0)), (1, .int x1), (2, .int x2), (3, .int x3), (4, .int x4), (5, .int x5)] [] m0 (f_X9_move a0 x1 x2 x3 x4 x5 m0) := by
  unfold f_X9_move
  refine g_iload_n C dX9_move_0 1 rfl rfl ?_
  refine g_callSi C cv_X9_isSheet q_1329 (ct_X9_isSheet x1  m0) q_1328 (by decide) rfl rfl (Nat.le_of_ble_eq_true rfl) dX9_move_1 (fun r1 m2 => ?_)
  refine g_if_eq C 14 dX9_move_4 (by decide) (fun _ => ?_) (fun _ => ?_)
  · refine g_sub [0] rfl ?_
    exact s_X9_move_J14 C Rr a0 h0 m2
  · refine g_iload_n C dX9_move_7 3 rfl rfl ?_
    refine g_callSi C cv_X9_isSheet q_1329 (ct_X9_isSheet x3  m2) q_1328 (by decide) rfl rfl (Nat.le_of_ble_eq_true rfl) dX9_move_8 (fun r3 m4 => ?_)
    refine g_if_ne C 20 dX9_move_11 (by decide) (fun _ => ?_) (fun _ => ?_)
    · refine g_aload_n C dX9_move_20 0 rfl rfl ?_
      refine g_getr C 16 9 Fx9 h0 (by decide) rfl rfl q_935 dX9_move_21 ?_
      refine g_iload_n C dX9_move_24 1 rfl rfl ?_
      refine g_iald (n := 4) C (cl_9_16 h0) dX9_move_25 (fun _ => ?_)
      refine g_if_eq C 38 dX9_move_26 (by decide) (fun _ => ?_) (fun _ => ?_)
      · refine g_sub [0] rfl ?_
        exact s_X9_move_J38 C Rr a0 h0 m4
      · refine g_aload_n C dX9_move_29 0 rfl rfl ?_
        refine g_getr C 16 9 Fx9 h0 (by decide) rfl rfl q_935 dX9_move_30 ?_
        refine g_iload_n C dX9_move_33 3 rfl rfl ?_
        refine g_iald (n := 4) C (cl_9_16 h0) dX9_move_34 (fun _ => ?_)
        refine g_if_ne C 44 dX9_move_35 (by decide) (fun _ => ?_) (fun _ => ?_)
        · refine g_aload_n C dX9_move_44 0 rfl rfl ?_
          refine g_getr C 16 9 Fx9 h0 (by decide) rfl rfl q_935 dX9_move_45 ?_
          refine g_iload_n C dX9_move_48 1 rfl rfl ?_
          refine g_iald (n := 4) C (cl_9_16 h0) dX9_move_49 (fun _ => ?_)
          refine g_aload_n C dX9_move_50 0 rfl rfl ?_
          refine g_getr C 16 9 Fx9 h0 (by decide) rfl rfl q_935 dX9_move_51 ?_
          refine g_iload_n C dX9_move_54 3 rfl rfl ?_
          refine g_iald (n := 4) C (cl_9_16 h0) dX9_move_55 (fun _ => ?_)
          refine g_icmp_eq C 65 dX9_move_56 (by decide) (fun _ => ?_) (fun _ => ?_)
          · refine g_iload C dX9_move_65 5 rfl ?_
            refine g_if_lt C 106 dX9_move_67 (by decide) (fun _ => ?_) (fun _ => ?_)
            · refine g_sub [0] rfl ?_
              exact s_X9_move_J106 C Rr a0 h0 m4
            · refine g_iload_n C dX9_move_70 2 rfl rfl ?_
              refine g_if_lt C 106 dX9_move_71 (by decide) (fun _ => ?_) (fun _ => ?_)
              · refine g_sub [0] rfl ?_
                exact s_X9_move_J106 C Rr a0 h0 m4
              · refine g_iload C dX9_move_74 4 rfl ?_
                refine g_if_lt C 106 dX9_move_76 (by decide) (fun _ => ?_) (fun _ => ?_)
                · refine g_sub [0] rfl ?_
                  exact s_X9_move_J106 C Rr a0 h0 m4
                · refine g_iload_n C dX9_move_79 2 rfl rfl ?_
                  refine g_aload_n C dX9_move_80 0 rfl rfl ?_
                  refine g_getr C 17 10 Fx9 h0 (by decide) rfl rfl q_936 dX9_move_81 ?_
                  refine g_iload_n C dX9_move_84 1 rfl rfl ?_
                  refine g_iald (n := 4) C (cl_9_17 h0) dX9_move_85 (fun _ => ?_)
                  refine g_iload C dX9_move_86 5 rfl ?_
                  refine g_isub C dX9_move_88 ?_
                  refine g_icmp_gt C 106 dX9_move_89 (by decide) (fun _ => ?_) (fun _ => ?_)
                  · refine g_sub [0] rfl ?_
                    exact s_X9_move_J106 C Rr a0 h0 m4
                  · refine g_iload C dX9_move_92 4 rfl ?_
                    refine g_aload_n C dX9_move_94 0 rfl rfl ?_
                    refine g_getr C 17 10 Fx9 h0 (by decide) rfl rfl q_936 dX9_move_95 ?_
                    refine g_iload_n C dX9_move_98 3 rfl rfl ?_
                    refine g_iald (n := 4) C (cl_9_17 h0) dX9_move_99 (fun _ => ?_)
                    refine g_iload C dX9_move_100 5 rfl ?_
                    refine g_isub C dX9_move_102 ?_
                    refine g_icmp_le C 112 dX9_move_103 (by decide) (fun _ => ?_) (fun _ => ?_)
                    · refine g_iconst C (0 : Int32) dX9_move_112 rfl ?_
                      refine g_istore C dX9_move_113 (by decide) rfl ?_
                      refine g_sub [1, 2, 3, 4, 5, 6, 0] rfl ?_
                      exact s_X9_move_L115 C Rr FU a0 x1 x2 x3 x4 x5 (0 : Int32) h0 m4
                    · refine g_sub [0] rfl ?_
                      exact s_X9_move_J106 C Rr a0 h0 m4
          · refine g_aload_n C dX9_move_59 0 rfl rfl ?_
            refine g_iconst C (5 : Int32) dX9_move_60 rfl ?_
            refine g_callVi C cv_X9_error (ct_X9_error a0 (5 : Int32) h0 m4) q_990 h0 (by decide) rfl rfl (Nat.le_of_ble_eq_true rfl) dX9_move_61 (fun r5 m6 => ?_)
            exact g_iret C Rr dX9_move_64
        · refine g_sub [0] rfl ?_
          exact s_X9_move_J38 C Rr a0 h0 m4
    · refine g_sub [0] rfl ?_
      exact s_X9_move_J14 C Rr a0 h0 m4
theorem ct_X9_move {Ω : OT} (a0 : Nat) (x1 : Int32) (x2 : Int32) (x3 : Int32) (x4 : Int32) (x5 : Int32) (h0 : tg a0 = 9) (m0 : Mem) : Ct Ω yX9_move cX9_move 7 (some .int) 3 [.ref (oF Ω a0), .int x1, .int x2, .int x3, .int x4, .int x5] m0 (f_X9_move a0 x1 x2 x3 x4 x5 m0) := by
  refine Ct_of (by decide) (Nat.le_of_ble_eq_true rfl) ?_
  intro K hK C Rr
  subst hK
  exact s_X9_move C Rr  a0 x1 x2 x3 x4 x5 h0 m0
def X9_lacks_J25   (xs0 : Int32) (m0 : Mem) : Res :=
  some (xs0, m0)
def f_X9_lacks  (a0 : Nat) (x1 : Int32) (m0 : Mem) : Res :=
  cal (f_X9_isSheet x1 m0) (fun r1 m2 =>
  (if r1 = 0 then
  X9_lacks_J25 (1 : Int32) m2
  else
  gd (inb x1 4) (
  (if (m2 (a0 + 9) x1.toNatClampNeg) = 0 then
  X9_lacks_J25 (2 : Int32) m2
  else
  X9_lacks_J25 (0 : Int32) m2))))
set_option maxHeartbeats 2000000 in
theorem s_X9_lacks_J25 {K : KT}  (C : Cx K cX9_lacks RX9 2 3) (Rr : Rx K (some .int))    (xs0 : Int32)  (m0 : Mem) : G K 25 [] [.int xs0] m0 (X9_lacks_J25 xs0 m0) := by
  unfold X9_lacks_J25
  exact g_iret C Rr dX9_lacks_25
set_option maxHeartbeats 2000000 in
theorem s_X9_lacks {K : KT}  (C : Cx K cX9_lacks RX9 2 3) (Rr : Rx K (some .int))  (a0 : Nat) (x1 : Int32) (h0 : tg a0 = 9) (m0 : Mem) : G K 0 [(0, .ref (kf K a0)), (1, .int x1)] [] m0 (f_X9_lacks a0 x1 m0) := by
  unfold f_X9_lacks
  refine g_iload_n C dX9_lacks_0 1 rfl rfl ?_
  refine g_callSi C cv_X9_isSheet q_1329 (ct_X9_isSheet x1  m0) q_1328 (by decide) rfl rfl (Nat.le_of_ble_eq_true rfl) dX9_lacks_1 (fun r1 m2 => ?_)
  refine g_if_ne C 11 dX9_lacks_4 (by decide) (fun _ => ?_) (fun _ => ?_)
  · refine g_aload_n C dX9_lacks_11 0 rfl rfl ?_
    refine g_getr C 16 9 Fx9 h0 (by decide) rfl rfl q_935 dX9_lacks_12 ?_
    refine g_iload_n C dX9_lacks_15 1 rfl rfl ?_
    refine g_iald (n := 4) C (cl_9_16 h0) dX9_lacks_16 (fun _ => ?_)
    refine g_if_ne C 24 dX9_lacks_17 (by decide) (fun _ => ?_) (fun _ => ?_)
    · refine g_iconst C (0 : Int32) dX9_lacks_24 rfl ?_
      refine g_sub [] rfl ?_
      exact s_X9_lacks_J25 C Rr (0 : Int32) m2
    · refine g_iconst C (2 : Int32) dX9_lacks_20 rfl ?_
      refine g_goto C 25 dX9_lacks_21 (by decide) ?_
      refine g_sub [] rfl ?_
      exact s_X9_lacks_J25 C Rr (2 : Int32) m2
  · refine g_iconst C (1 : Int32) dX9_lacks_7 rfl ?_
    refine g_goto C 25 dX9_lacks_8 (by decide) ?_
    refine g_sub [] rfl ?_
    exact s_X9_lacks_J25 C Rr (1 : Int32) m2
theorem ct_X9_lacks {Ω : OT} (a0 : Nat) (x1 : Int32) (h0 : tg a0 = 9) (m0 : Mem) : Ct Ω yX9_lacks cX9_lacks 2 (some .int) 3 [.ref (oF Ω a0), .int x1] m0 (f_X9_lacks a0 x1 m0) := by
  refine Ct_of (by decide) (Nat.le_of_ble_eq_true rfl) ?_
  intro K hK C Rr
  subst hK
  exact s_X9_lacks C Rr  a0 x1 h0 m0
def X9_customers_J139   (x3 : Int32) (m0 : Mem) : Res :=
  some (x3, m0)
def X9_customers_L24B  (k24 : Nat → Int32 → Int32 → Int32 → Mem → Res) (a0 : Nat) (x1 : Int32) (x3 : Int32) (x4 : Int32) (m0 : Mem) : Res :=
  gd (inb x1 4) (
  (if (m0 (a0 + 10) x1.toNatClampNeg) ≤ (((3 : Int32) * x3) + (2 : Int32)) then
  X9_customers_J139 x3 m0
  else
  gd (inb (1 : Int32) 516) (
  (if (10 : Int32) ≤ (m0 (a0 + 1) (1 : Int32).toNatClampNeg) then
  X9_customers_J139 x3 m0
  else
  gd (inb (x4 + ((3 : Int32) * x3)) 96) (
  gd (inb ((x4 + ((3 : Int32) * x3)) + (1 : Int32)) 96) (
  gd (inb ((x4 + ((3 : Int32) * x3)) + (2 : Int32)) 96) (
  cal (f_X9_isCustomer1 (m0 (a0 + 11) (x4 + ((3 : Int32) * x3)).toNatClampNeg) (m0 (a0 + 11) ((x4 + ((3 : Int32) * x3)) + (1 : Int32)).toNatClampNeg) (m0 (a0 + 11) ((x4 + ((3 : Int32) * x3)) + (2 : Int32)).toNatClampNeg) m0) (fun r1 m2 =>
  (if r1 = 0 then
  X9_customers_J139 x3 m2
  else
  gd (inb (x4 + ((3 : Int32) * x3)) 96) (
  gd (inb ((x4 + ((3 : Int32) * x3)) + (1 : Int32)) 96) (
  gd (inb ((x4 + ((3 : Int32) * x3)) + (2 : Int32)) 96) (
  cal (f_X9_addCustomer a0 (m2 (a0 + 11) (x4 + ((3 : Int32) * x3)).toNatClampNeg) (m2 (a0 + 11) ((x4 + ((3 : Int32) * x3)) + (1 : Int32)).toNatClampNeg) (m2 (a0 + 11) ((x4 + ((3 : Int32) * x3)) + (2 : Int32)).toNatClampNeg) m2) (fun r3 m4 =>
  bnd (x3 + (1 : Int32)) (fun y5 =>
  k24 a0 x1 y5 x4 m4))))))))))))))
def X9_customers_L24   : Nat → Nat → Int32 → Int32 → Int32 → Mem → Res
  | 0 => fun _ _ _ _ _ => none
  | n + 1 => X9_customers_L24B (X9_customers_L24 n)
def f_X9_customers  (a0 : Nat) (x1 : Int32) (m0 : Mem) : Res :=
  cal (f_X9_lacks a0 x1 m0) (fun r1 m2 =>
  (if r1 ≤ 0 then
  bnd ((24 : Int32) * x1) (fun y3 =>
  X9_customers_L24 FU a0 x1 (0 : Int32) y3 m2)
  else
  cal (f_X9_error a0 r1 m2) (fun r4 m5 =>
  some (r4, m5))))
set_option maxHeartbeats 2000000 in
theorem s_X9_customers_J139 {K : KT}  (C : Cx K cX9_customers RX9 5 4) (Rr : Rx K (some .int))    (x3 : Int32)  (m0 : Mem) : G K 139 [(3, .int x3)] [] m0 (X9_customers_J139 x3 m0) := by
  unfold X9_customers_J139
  refine g_iload_n C dX9_customers_139 0 rfl rfl ?_
  exact g_iret C Rr dX9_customers_140
set_option maxHeartbeats 2000000 in
theorem s_X9_customers_L24B {K : KT}  (C : Cx K cX9_customers RX9 5 4) (Rr : Rx K (some .int))  {k24 : Nat → Int32 → Int32 → Int32 → Mem → Res} (hk24 : ∀ (a0 : Nat) (x1 : Int32) (x3 : Int32) (x4 : Int32) (h0 : tg a0 = 9) (m0 : Mem), G K 24 [(0, .ref (kf K a0)), (1, .int x1), (3, .int x3), (4, .int x4)] [] m0 (k24 a0 x1 x3 x4 m0)) (a0 : Nat) (x1 : Int32) (x3 : Int32) (x4 : Int32) (h0 : tg a0 = 9) (m0 : Mem) : G K 24 [(0, .ref (kf K a0)), (1, .int x1), (3, .int x3), (4, .int x4)] [] m0 (X9_customers_L24B k24 a0 x1 x3 x4 m0) := by
  unfold X9_customers_L24B
  refine g_iconst C (3 : Int32) dX9_customers_24 rfl ?_
  refine g_iload_n C dX9_customers_25 2 rfl rfl ?_
  refine g_imul C dX9_customers_26 ?_
  refine g_iconst C (2 : Int32) dX9_customers_27 rfl ?_
  refine g_iadd C dX9_customers_28 ?_
  refine g_aload_n C dX9_customers_29 0 rfl rfl ?_
  refine g_getr C 17 10 Fx9 h0 (by decide) rfl rfl q_936 dX9_customers_30 ?_
  refine g_iload_n C dX9_customers_33 1 rfl rfl ?_
  refine g_iald (n := 4) C (cl_9_17 h0) dX9_customers_34 (fun _ => ?_)
  refine g_icmp_ge C 139 dX9_customers_35 (by decide) (fun _ => ?_) (fun _ => ?_)
  · refine g_sub [2] rfl ?_
    exact s_X9_customers_J139 C Rr x3 m0
  · refine g_aload_n C dX9_customers_38 0 rfl rfl ?_
    refine g_getr C 0 1 Fx9 h0 (by decide) rfl rfl q_919 dX9_customers_39 ?_
    refine g_iconst C (1 : Int32) dX9_customers_42 rfl ?_
    refine g_iald (n := 516) C (cl_9_0 h0) dX9_customers_43 (fun _ => ?_)
    refine g_bipush C (10 : Int32) dX9_customers_44 rfl ?_
    refine g_icmp_ge C 139 dX9_customers_46 (by decide) (fun _ => ?_) (fun _ => ?_)
    · refine g_sub [2] rfl ?_
      exact s_X9_customers_J139 C Rr x3 m0
    · refine g_aload_n C dX9_customers_49 0 rfl rfl ?_
      refine g_getr C 18 11 Fx9 h0 (by decide) rfl rfl q_937 dX9_customers_50 ?_
      refine g_iload C dX9_customers_53 3 rfl ?_
      refine g_iconst C (3 : Int32) dX9_customers_55 rfl ?_
      refine g_iload_n C dX9_customers_56 2 rfl rfl ?_
      refine g_imul C dX9_customers_57 ?_
      refine g_iadd C dX9_customers_58 ?_
      refine g_iald (n := 96) C (cl_9_18 h0) dX9_customers_59 (fun _ => ?_)
      refine g_aload_n C dX9_customers_60 0 rfl rfl ?_
      refine g_getr C 18 11 Fx9 h0 (by decide) rfl rfl q_937 dX9_customers_61 ?_
      refine g_iload C dX9_customers_64 3 rfl ?_
      refine g_iconst C (3 : Int32) dX9_customers_66 rfl ?_
      refine g_iload_n C dX9_customers_67 2 rfl rfl ?_
      refine g_imul C dX9_customers_68 ?_
      refine g_iadd C dX9_customers_69 ?_
      refine g_iconst C (1 : Int32) dX9_customers_70 rfl ?_
      refine g_iadd C dX9_customers_71 ?_
      refine g_iald (n := 96) C (cl_9_18 h0) dX9_customers_72 (fun _ => ?_)
      refine g_aload_n C dX9_customers_73 0 rfl rfl ?_
      refine g_getr C 18 11 Fx9 h0 (by decide) rfl rfl q_937 dX9_customers_74 ?_
      refine g_iload C dX9_customers_77 3 rfl ?_
      refine g_iconst C (3 : Int32) dX9_customers_79 rfl ?_
      refine g_iload_n C dX9_customers_80 2 rfl rfl ?_
      refine g_imul C dX9_customers_81 ?_
      refine g_iadd C dX9_customers_82 ?_
      refine g_iconst C (2 : Int32) dX9_customers_83 rfl ?_
      refine g_iadd C dX9_customers_84 ?_
      refine g_iald (n := 96) C (cl_9_18 h0) dX9_customers_85 (fun _ => ?_)
      refine g_callSi C cv_X9_isCustomer1 q_1055 (ct_X9_isCustomer1 (m0 (a0 + 11) (x4 + ((3 : Int32) * x3)).toNatClampNeg) (m0 (a0 + 11) ((x4 + ((3 : Int32) * x3)) + (1 : Int32)).toNatClampNeg) (m0 (a0 + 11) ((x4 + ((3 : Int32) * x3)) + (2 : Int32)).toNatClampNeg)  m0) q_1054 (by decide) rfl rfl (Nat.le_of_ble_eq_true rfl) dX9_customers_86 (fun r1 m2 => ?_)
      refine g_if_eq C 139 dX9_customers_89 (by decide) (fun _ => ?_) (fun _ => ?_)
      · refine g_sub [2] rfl ?_
        exact s_X9_customers_J139 C Rr x3 m2
      · refine g_aload_n C dX9_customers_92 0 rfl rfl ?_
        refine g_aload_n C dX9_customers_93 0 rfl rfl ?_
        refine g_getr C 18 11 Fx9 h0 (by decide) rfl rfl q_937 dX9_customers_94 ?_
        refine g_iload C dX9_customers_97 3 rfl ?_
        refine g_iconst C (3 : Int32) dX9_customers_99 rfl ?_
        refine g_iload_n C dX9_customers_100 2 rfl rfl ?_
        refine g_imul C dX9_customers_101 ?_
        refine g_iadd C dX9_customers_102 ?_
        refine g_iald (n := 96) C (cl_9_18 h0) dX9_customers_103 (fun _ => ?_)
        refine g_aload_n C dX9_customers_104 0 rfl rfl ?_
        refine g_getr C 18 11 Fx9 h0 (by decide) rfl rfl q_937 dX9_customers_105 ?_
        refine g_iload C dX9_customers_108 3 rfl ?_
        refine g_iconst C (3 : Int32) dX9_customers_110 rfl ?_
        refine g_iload_n C dX9_customers_111 2 rfl rfl ?_
        refine g_imul C dX9_customers_112 ?_
        refine g_iadd C dX9_customers_113 ?_
        refine g_iconst C (1 : Int32) dX9_customers_114 rfl ?_
        refine g_iadd C dX9_customers_115 ?_
        refine g_iald (n := 96) C (cl_9_18 h0) dX9_customers_116 (fun _ => ?_)
        refine g_aload_n C dX9_customers_117 0 rfl rfl ?_
        refine g_getr C 18 11 Fx9 h0 (by decide) rfl rfl q_937 dX9_customers_118 ?_
        refine g_iload C dX9_customers_121 3 rfl ?_
        refine g_iconst C (3 : Int32) dX9_customers_123 rfl ?_
        refine g_iload_n C dX9_customers_124 2 rfl rfl ?_
        refine g_imul C dX9_customers_125 ?_
        refine g_iadd C dX9_customers_126 ?_
        refine g_iconst C (2 : Int32) dX9_customers_127 rfl ?_
        refine g_iadd C dX9_customers_128 ?_
        refine g_iald (n := 96) C (cl_9_18 h0) dX9_customers_129 (fun _ => ?_)
        refine g_callVv C cv_X9_addCustomer (ct_X9_addCustomer a0 (m2 (a0 + 11) (x4 + ((3 : Int32) * x3)).toNatClampNeg) (m2 (a0 + 11) ((x4 + ((3 : Int32) * x3)) + (1 : Int32)).toNatClampNeg) (m2 (a0 + 11) ((x4 + ((3 : Int32) * x3)) + (2 : Int32)).toNatClampNeg) h0 m2) q_1057 h0 (by decide) rfl rfl (Nat.le_of_ble_eq_true rfl) dX9_customers_130 (fun r3 m4 => ?_)
        refine g_iinc (k := 2) C dX9_customers_133 rfl (w := (1 : Int32)) rfl (by decide) (fun v_ => [(3, .int v_), (0, .ref (kf K a0)), (1, .int x1), (4, .int x4)]) (fun _ => rfl) (fun y5 => ?_)
        refine g_goto C 24 dX9_customers_136 (by decide) ?_
        refine g_sub [1, 2, 0, 3] rfl ?_
        exact hk24 a0 x1 y5 x4 h0 m4
theorem s_X9_customers_L24 {K : KT}  (C : Cx K cX9_customers RX9 5 4) (Rr : Rx K (some .int))    : ∀ (n : Nat) (a0 : Nat) (x1 : Int32) (x3 : Int32) (x4 : Int32) (h0 : tg a0 = 9) (m0 : Mem), G K 24 [(0, .ref (kf K a0)), (1, .int x1), (3, .int x3), (4, .int x4)] [] m0 (X9_customers_L24 n a0 x1 x3 x4 m0) := by
  intro n
  induction n with
  | zero => intros; exact g_none
  | succ n ih =>
    intro a0 x1 x3 x4 h0 m0
    exact s_X9_customers_L24B C Rr  ih a0 x1 x3 x4 h0 m0
set_option maxHeartbeats 2000000 in
theorem s_X9_customers {K : KT}  (C : Cx K cX9_customers RX9 5 4) (Rr : Rx K (some .int))  (a0 : Nat) (x1 : Int32) (h0 : tg a0 = 9) (m0 : Mem) : G K 0 [(0, .ref (kf K a0)), (1, .int x1)] [] m0 (f_X9_customers a0 x1 m0) := by
  unfold f_X9_customers
  refine g_aload_n C dX9_customers_0 0 rfl rfl ?_
  refine g_iload_n C dX9_customers_1 1 rfl rfl ?_
  refine g_callVi C cv_X9_lacks (ct_X9_lacks a0 x1 h0 m0) q_1343 h0 (by decide) rfl rfl (Nat.le_of_ble_eq_true rfl) dX9_customers_2 (fun r1 m2 => ?_)
  refine g_istore_n C dX9_customers_5 rfl (by decide) rfl ?_
  refine g_iload_n C dX9_customers_6 0 rfl rfl ?_
  refine g_if_le C 16 dX9_customers_7 (by decide) (fun _ => ?_) (fun _ => ?_)
  · refine g_iconst C (0 : Int32) dX9_customers_16 rfl ?_
    refine g_istore_n C dX9_customers_17 rfl (by decide) rfl ?_
    refine g_bipush C (24 : Int32) dX9_customers_18 rfl ?_
    refine g_iload_n C dX9_customers_20 3 rfl rfl ?_
    refine g_imul C dX9_customers_21 ?_
    refine g_bnd (fun y3 => ?_)
    refine g_istore C dX9_customers_22 (by decide) rfl ?_
    refine g_sub [3, 4, 1, 0] rfl ?_
    exact s_X9_customers_L24 C Rr FU a0 x1 (0 : Int32) y3 h0 m2
  · refine g_aload_n C dX9_customers_10 1 rfl rfl ?_
    refine g_iload_n C dX9_customers_11 0 rfl rfl ?_
    refine g_callVi C cv_X9_error (ct_X9_error a0 r1 h0 m2) q_990 h0 (by decide) rfl rfl (Nat.le_of_ble_eq_true rfl) dX9_customers_12 (fun r4 m5 => ?_)
    exact g_iret C Rr dX9_customers_15
theorem ct_X9_customers {Ω : OT} (a0 : Nat) (x1 : Int32) (h0 : tg a0 = 9) (m0 : Mem) : Ct Ω yX9_customers cX9_customers 5 (some .int) 4 [.ref (oF Ω a0), .int x1] m0 (f_X9_customers a0 x1 m0) := by
  refine Ct_of (by decide) (Nat.le_of_ble_eq_true rfl) ?_
  intro K hK C Rr
  subst hK
  exact s_X9_customers C Rr  a0 x1 h0 m0
def X9_judge_J153   (a0 : Nat) (x3 : Int32) (m0 : Mem) : Res :=
  cal (f_X9_carry (a0 + 3) 516 (a0 + 1) 516 m0) (fun r1 m2 =>
  some (x3, m2))
def X9_judge_J150  (k32 : Nat → Int32 → Int32 → Int32 → Mem → Res) (a0 : Nat) (x1 : Int32) (x3 : Int32) (x4 : Int32) (m0 : Mem) : Res :=
  k32 a0 x1 x3 x4 m0
def X9_judge_J116  (k32 : Nat → Int32 → Int32 → Int32 → Mem → Res) (a0 : Nat) (x1 : Int32) (x3 : Int32) (x5 : Int32) (x6 : Int32) (xs0 : Int32) (m0 : Mem) : Res :=
  (if xs0 = 0 then
  X9_judge_J150 k32 a0 x1 x3 xs0 m0
  else
  cal (f_X9_its a0 x5 ((9 : Int32) + x6) m0) (fun r1 m2 =>
  cal (f_X9_lays1 a0 x5 ((9 : Int32) + x6) (r1 - (1 : Int32)) m2) (fun r3 m4 =>
  bnd (x3 + (1 : Int32)) (fun y5 =>
  X9_judge_J150 k32 a0 x1 y5 xs0 m4))))
def X9_judge_J115  (k32 : Nat → Int32 → Int32 → Int32 → Mem → Res) (a0 : Nat) (x1 : Int32) (x3 : Int32) (x5 : Int32) (x6 : Int32) (m0 : Mem) : Res :=
  X9_judge_J116 k32 a0 x1 x3 x5 x6 (0 : Int32) m0
def X9_judge_L32B  (k32 : Nat → Int32 → Int32 → Int32 → Mem → Res) (a0 : Nat) (x1 : Int32) (x3 : Int32) (x4 : Int32) (m0 : Mem) : Res :=
  (if x4 = 0 then
  X9_judge_J153 a0 x3 m0
  else
  gd (inb x1 4) (
  (if (m0 (a0 + 10) x1.toNatClampNeg) ≤ (((2 : Int32) * x3) + (1 : Int32)) then
  X9_judge_J153 a0 x3 m0
  else
  gd (inb (((24 : Int32) * x1) + ((2 : Int32) * x3)) 96) (
  bnd (m0 (a0 + 11) (((24 : Int32) * x1) + ((2 : Int32) * x3)).toNatClampNeg) (fun y1 =>
  gd (inb ((((24 : Int32) * x1) + ((2 : Int32) * x3)) + (1 : Int32)) 96) (
  bnd (m0 (a0 + 11) ((((24 : Int32) * x1) + ((2 : Int32) * x3)) + (1 : Int32)).toNatClampNeg) (fun y2 =>
  cal (f_X9_isShop a0 y1 m0) (fun r3 m4 =>
  (if r3 = 0 then
  X9_judge_J115 k32 a0 x1 x3 y1 y2 m4
  else
  cal (f_X9_isGood y2 m4) (fun r5 m6 =>
  (if r5 = 0 then
  X9_judge_J115 k32 a0 x1 x3 y1 y2 m6
  else
  cal (f_X9_may a0 y1 y2 m6) (fun r7 m8 =>
  (if r7 = 0 then
  X9_judge_J115 k32 a0 x1 x3 y1 y2 m8
  else
  X9_judge_J116 k32 a0 x1 x3 y1 y2 (1 : Int32) m8)))))))))))))
def X9_judge_L32   : Nat → Nat → Int32 → Int32 → Int32 → Mem → Res
  | 0 => fun _ _ _ _ _ => none
  | n + 1 => X9_judge_L32B (X9_judge_L32 n)
def f_X9_judge  (a0 : Nat) (x1 : Int32) (m0 : Mem) : Res :=
  cal (f_X9_lacks a0 x1 m0) (fun r1 m2 =>
  (if r1 ≤ 0 then
  cal (f_X9_carry (a0 + 1) 516 (a0 + 3) 516 m2) (fun r3 m4 =>
  X9_judge_L32 FU a0 x1 (0 : Int32) (1 : Int32) m4)
  else
  cal (f_X9_error a0 r1 m2) (fun r5 m6 =>
  some (r5, m6))))
set_option maxHeartbeats 2000000 in
theorem s_X9_judge_J153 {K : KT}  (C : Cx K cX9_judge RX9 7 4) (Rr : Rx K (some .int))    (a0 : Nat) (x3 : Int32) (h0 : tg a0 = 9) (m0 : Mem) : G K 153 [(0, .ref (kf K a0)), (3, .int x3)] [] m0 (X9_judge_J153 a0 x3 m0) := by
  unfold X9_judge_J153
  refine g_aload_n C dX9_judge_153 0 rfl rfl ?_
  refine g_getr C 2 3 Fx9 h0 (by decide) rfl rfl q_921 dX9_judge_154 ?_
  refine g_aload_n C dX9_judge_157 0 rfl rfl ?_
  refine g_getr C 0 1 Fx9 h0 (by decide) rfl rfl q_919 dX9_judge_158 ?_
  refine g_callSv C cv_X9_carry q_1243 (ct_X9_carry (a0 + 3) 516 (a0 + 1) 516 (cl_9_2 h0) (cl_9_0 h0) m0) q_1242 (by decide) rfl rfl (Nat.le_of_ble_eq_true rfl) dX9_judge_161 (fun r1 m2 => ?_)
  refine g_iload_n C dX9_judge_164 1 rfl rfl ?_
  exact g_iret C Rr dX9_judge_165
set_option maxHeartbeats 2000000 in
theorem s_X9_judge_J150 {K : KT}  (C : Cx K cX9_judge RX9 7 4) (Rr : Rx K (some .int))  {k32 : Nat → Int32 → Int32 → Int32 → Mem → Res} (hk32 : ∀ (a0 : Nat) (x1 : Int32) (x3 : Int32) (x4 : Int32) (h0 : tg a0 = 9) (m0 : Mem), G K 32 [(0, .ref (kf K a0)), (1, .int x1), (3, .int x3), (4, .int x4)] [] m0 (k32 a0 x1 x3 x4 m0)) (a0 : Nat) (x1 : Int32) (x3 : Int32) (x4 : Int32) (h0 : tg a0 = 9) (m0 : Mem) : G K 150 [(0, .ref (kf K a0)), (1, .int x1), (3, .int x3), (4, .int x4)] [] m0 (X9_judge_J150 k32 a0 x1 x3 x4 m0) := by
  unfold X9_judge_J150
  refine g_goto C 32 dX9_judge_150 (by decide) ?_
  refine g_sub [0, 1, 2, 3] rfl ?_
  exact hk32 a0 x1 x3 x4 h0 m0
set_option maxHeartbeats 2000000 in
theorem s_X9_judge_J116 {K : KT}  (C : Cx K cX9_judge RX9 7 4) (Rr : Rx K (some .int))  {k32 : Nat → Int32 → Int32 → Int32 → Mem → Res} (hk32 : ∀ (a0 : Nat) (x1 : Int32) (x3 : Int32) (x4 : Int32) (h0 : tg a0 = 9) (m0 : Mem), G K 32 [(0, .ref (kf K a0)), (1, .int x1), (3, .int x3), (4, .int x4)] [] m0 (k32 a0 x1 x3 x4 m0)) (a0 : Nat) (x1 : Int32) (x3 : Int32) (x5 : Int32) (x6 : Int32) (xs0 : Int32) (h0 : tg a0 = 9) (m0 : Mem) : G K 116 [(0, .ref (kf K a0)), (1, .int x1), (3, .int x3), (5, .int x5), (6, .int x6)] [.int xs0] m0 (X9_judge_J116 k32 a0 x1 x3 x5 x6 xs0 m0) := by
  unfold X9_judge_J116
  refine g_istore C dX9_judge_116 (by decide) rfl ?_
  refine g_iload C dX9_judge_118 0 rfl ?_
  refine g_if_eq C 150 dX9_judge_120 (by decide) (fun _ => ?_) (fun _ => ?_)
  · refine g_sub [1, 2, 3, 0] rfl ?_
    exact s_X9_judge_J150 C Rr hk32 a0 x1 x3 xs0 h0 m0
  · refine g_aload_n C dX9_judge_123 1 rfl rfl ?_
    refine g_iload C dX9_judge_124 4 rfl ?_
    refine g_bipush C (9 : Int32) dX9_judge_126 rfl ?_
    refine g_iload C dX9_judge_128 5 rfl ?_
    refine g_iadd C dX9_judge_130 ?_
    refine g_aload_n C dX9_judge_131 1 rfl rfl ?_
    refine g_iload C dX9_judge_132 4 rfl ?_
    refine g_bipush C (9 : Int32) dX9_judge_134 rfl ?_
    refine g_iload C dX9_judge_136 5 rfl ?_
    refine g_iadd C dX9_judge_138 ?_
    refine g_callVi C cv_X9_its (ct_X9_its a0 x5 ((9 : Int32) + x6) h0 m0) q_1031 h0 (by decide) rfl rfl (Nat.le_of_ble_eq_true rfl) dX9_judge_139 (fun r1 m2 => ?_)
    refine g_iconst C (1 : Int32) dX9_judge_142 rfl ?_
    refine g_isub C dX9_judge_143 ?_
    refine g_callVv C cv_X9_lays1 (ct_X9_lays1 a0 x5 ((9 : Int32) + x6) (r1 - (1 : Int32)) h0 m2) q_1003 h0 (by decide) rfl rfl (Nat.le_of_ble_eq_true rfl) dX9_judge_144 (fun r3 m4 => ?_)
    refine g_iinc (k := 3) C dX9_judge_147 rfl (w := (1 : Int32)) rfl (by decide) (fun v_ => [(3, .int v_), (4, .int xs0), (0, .ref (kf K a0)), (1, .int x1), (5, .int x5), (6, .int x6)]) (fun _ => rfl) (fun y5 => ?_)
    refine g_sub [2, 3, 0, 1] rfl ?_
    exact s_X9_judge_J150 C Rr hk32 a0 x1 y5 xs0 h0 m4
set_option maxHeartbeats 2000000 in
theorem s_X9_judge_J115 {K : KT}  (C : Cx K cX9_judge RX9 7 4) (Rr : Rx K (some .int))  {k32 : Nat → Int32 → Int32 → Int32 → Mem → Res} (hk32 : ∀ (a0 : Nat) (x1 : Int32) (x3 : Int32) (x4 : Int32) (h0 : tg a0 = 9) (m0 : Mem), G K 32 [(0, .ref (kf K a0)), (1, .int x1), (3, .int x3), (4, .int x4)] [] m0 (k32 a0 x1 x3 x4 m0)) (a0 : Nat) (x1 : Int32) (x3 : Int32) (x5 : Int32) (x6 : Int32) (h0 : tg a0 = 9) (m0 : Mem) : G K 115 [(0, .ref (kf K a0)), (1, .int x1), (3, .int x3), (5, .int x5), (6, .int x6)] [] m0 (X9_judge_J115 k32 a0 x1 x3 x5 x6 m0) := by
  unfold X9_judge_J115
  refine g_iconst C (0 : Int32) dX9_judge_115 rfl ?_
  refine g_sub [0, 1, 2, 3, 4] rfl ?_
  exact s_X9_judge_J116 C Rr hk32 a0 x1 x3 x5 x6 (0 : Int32) h0 m0
set_option maxHeartbeats 2000000 in
theorem s_X9_judge_L32B {K : KT}  (C : Cx K cX9_judge RX9 7 4) (Rr : Rx K (some .int))  {k32 : Nat → Int32 → Int32 → Int32 → Mem → Res} (hk32 : ∀ (a0 : Nat) (x1 : Int32) (x3 : Int32) (x4 : Int32) (h0 : tg a0 = 9) (m0 : Mem), G K 32 [(0, .ref (kf K a0)), (1, .int x1), (3, .int x3), (4, .int x4)] [] m0 (k32 a0 x1 x3 x4 m0)) (a0 : Nat) (x1 : Int32) (x3 : Int32) (x4 : Int32) (h0 : tg a0 = 9) (m0 : Mem) : G K 32 [(0, .ref (kf K a0)), (1, .int x1), (3, .int x3), (4, .int x4)] [] m0 (X9_judge_L32B k32 a0 x1 x3 x4 m0) := by
  unfold X9_judge_L32B
  refine g_iload C dX9_judge_32 3 rfl ?_
  refine g_if_eq C 153 dX9_judge_34 (by decide) (fun _ => ?_) (fun _ => ?_)
  · refine g_sub [0, 2] rfl ?_
    exact s_X9_judge_J153 C Rr a0 x3 h0 m0
  · refine g_iconst C (2 : Int32) dX9_judge_37 rfl ?_
    refine g_iload_n C dX9_judge_38 2 rfl rfl ?_
    refine g_imul C dX9_judge_39 ?_
    refine g_iconst C (1 : Int32) dX9_judge_40 rfl ?_
    refine g_iadd C dX9_judge_41 ?_
    refine g_aload_n C dX9_judge_42 0 rfl rfl ?_
    refine g_getr C 17 10 Fx9 h0 (by decide) rfl rfl q_936 dX9_judge_43 ?_
    refine g_iload_n C dX9_judge_46 1 rfl rfl ?_
    refine g_iald (n := 4) C (cl_9_17 h0) dX9_judge_47 (fun _ => ?_)
    refine g_icmp_ge C 153 dX9_judge_48 (by decide) (fun _ => ?_) (fun _ => ?_)
    · refine g_sub [0, 2] rfl ?_
      exact s_X9_judge_J153 C Rr a0 x3 h0 m0
    · refine g_aload_n C dX9_judge_51 0 rfl rfl ?_
      refine g_getr C 18 11 Fx9 h0 (by decide) rfl rfl q_937 dX9_judge_52 ?_
      refine g_bipush C (24 : Int32) dX9_judge_55 rfl ?_
      refine g_iload_n C dX9_judge_57 1 rfl rfl ?_
      refine g_imul C dX9_judge_58 ?_
      refine g_iconst C (2 : Int32) dX9_judge_59 rfl ?_
      refine g_iload_n C dX9_judge_60 2 rfl rfl ?_
      refine g_imul C dX9_judge_61 ?_
      refine g_iadd C dX9_judge_62 ?_
      refine g_iald (n := 96) C (cl_9_18 h0) dX9_judge_63 (fun _ => ?_)
      refine g_bnd (fun y1 => ?_)
      refine g_istore C dX9_judge_64 (by decide) rfl ?_
      refine g_aload_n C dX9_judge_66 1 rfl rfl ?_
      refine g_getr C 18 11 Fx9 h0 (by decide) rfl rfl q_937 dX9_judge_67 ?_
      refine g_bipush C (24 : Int32) dX9_judge_70 rfl ?_
      refine g_iload_n C dX9_judge_72 2 rfl rfl ?_
      refine g_imul C dX9_judge_73 ?_
      refine g_iconst C (2 : Int32) dX9_judge_74 rfl ?_
      refine g_iload_n C dX9_judge_75 3 rfl rfl ?_
      refine g_imul C dX9_judge_76 ?_
      refine g_iadd C dX9_judge_77 ?_
      refine g_iconst C (1 : Int32) dX9_judge_78 rfl ?_
      refine g_iadd C dX9_judge_79 ?_
      refine g_iald (n := 96) C (cl_9_18 h0) dX9_judge_80 (fun _ => ?_)
      refine g_bnd (fun y2 => ?_)
      refine g_istore C dX9_judge_81 (by decide) rfl ?_
      refine g_aload_n C dX9_judge_83 2 rfl rfl ?_
      refine g_iload C dX9_judge_84 1 rfl ?_
      refine g_callVi C cv_X9_isShop (ct_X9_isShop a0 y1 h0 m0) q_1011 h0 (by decide) rfl rfl (Nat.le_of_ble_eq_true rfl) dX9_judge_86 (fun r3 m4 => ?_)
      refine g_if_eq C 115 dX9_judge_89 (by decide) (fun _ => ?_) (fun _ => ?_)
      · refine g_sub [2, 3, 4, 1, 0] rfl ?_
        exact s_X9_judge_J115 C Rr hk32 a0 x1 x3 y1 y2 h0 m4
      · refine g_iload C dX9_judge_92 0 rfl ?_
        refine g_callSi C cv_X9_isGood q_985 (ct_X9_isGood y2  m4) q_984 (by decide) rfl rfl (Nat.le_of_ble_eq_true rfl) dX9_judge_94 (fun r5 m6 => ?_)
        refine g_if_eq C 115 dX9_judge_97 (by decide) (fun _ => ?_) (fun _ => ?_)
        · refine g_sub [2, 3, 4, 1, 0] rfl ?_
          exact s_X9_judge_J115 C Rr hk32 a0 x1 x3 y1 y2 h0 m6
        · refine g_aload_n C dX9_judge_100 2 rfl rfl ?_
          refine g_iload C dX9_judge_101 1 rfl ?_
          refine g_iload C dX9_judge_103 0 rfl ?_
          refine g_callVi C cv_X9_may (ct_X9_may a0 y1 y2 h0 m6) q_1023 h0 (by decide) rfl rfl (Nat.le_of_ble_eq_true rfl) dX9_judge_105 (fun r7 m8 => ?_)
          refine g_if_eq C 115 dX9_judge_108 (by decide) (fun _ => ?_) (fun _ => ?_)
          · refine g_sub [2, 3, 4, 1, 0] rfl ?_
            exact s_X9_judge_J115 C Rr hk32 a0 x1 x3 y1 y2 h0 m8
          · refine g_iconst C (1 : Int32) dX9_judge_111 rfl ?_
            refine g_goto C 116 dX9_judge_112 (by decide) ?_
            refine g_sub [2, 3, 4, 1, 0] rfl ?_
            exact s_X9_judge_J116 C Rr hk32 a0 x1 x3 y1 y2 (1 : Int32) h0 m8
theorem s_X9_judge_L32 {K : KT}  (C : Cx K cX9_judge RX9 7 4) (Rr : Rx K (some .int))    : ∀ (n : Nat) (a0 : Nat) (x1 : Int32) (x3 : Int32) (x4 : Int32) (h0 : tg a0 = 9) (m0 : Mem), G K 32 [(0, .ref (kf K a0)), (1, .int x1), (3, .int x3), (4, .int x4)] [] m0 (X9_judge_L32 n a0 x1 x3 x4 m0) := by
  intro n
  induction n with
  | zero => intros; exact g_none
  | succ n ih =>
    intro a0 x1 x3 x4 h0 m0
    exact s_X9_judge_L32B C Rr  ih a0 x1 x3 x4 h0 m0
set_option maxHeartbeats 2000000 in
theorem s_X9_judge {K : KT}  (C : Cx K cX9_judge RX9 7 4) (Rr : Rx K (some .int))  (a0 : Nat) (x1 : Int32) (h0 : tg a0 = 9) (m0 : Mem) : G K 0 [(0, .ref (kf K a0)), (1, .int x1)] [] m0 (f_X9_judge a0 x1 m0) := by
  unfold f_X9_judge
  refine g_aload_n C dX9_judge_0 0 rfl rfl ?_
  refine g_iload_n C dX9_judge_1 1 rfl rfl ?_
  refine g_callVi C cv_X9_lacks (ct_X9_lacks a0 x1 h0 m0) q_1343 h0 (by decide) rfl rfl (Nat.le_of_ble_eq_true rfl) dX9_judge_2 (fun r1 m2 => ?_)
  refine g_istore_n C dX9_judge_5 rfl (by decide) rfl ?_
  refine g_iload_n C dX9_judge_6 0 rfl rfl ?_
  refine g_if_le C 16 dX9_judge_7 (by decide) (fun _ => ?_) (fun _ => ?_)
  · refine g_aload_n C dX9_judge_16 1 rfl rfl ?_
    refine g_getr C 0 1 Fx9 h0 (by decide) rfl rfl q_919 dX9_judge_17 ?_
    refine g_aload_n C dX9_judge_20 1 rfl rfl ?_
    refine g_getr C 2 3 Fx9 h0 (by decide) rfl rfl q_921 dX9_judge_21 ?_
    refine g_callSv C cv_X9_carry q_1243 (ct_X9_carry (a0 + 1) 516 (a0 + 3) 516 (cl_9_0 h0) (cl_9_2 h0) m2) q_1242 (by decide) rfl rfl (Nat.le_of_ble_eq_true rfl) dX9_judge_24 (fun r3 m4 => ?_)
    refine g_iconst C (0 : Int32) dX9_judge_27 rfl ?_
    refine g_istore_n C dX9_judge_28 rfl (by decide) rfl ?_
    refine g_iconst C (1 : Int32) dX9_judge_29 rfl ?_
    refine g_istore C dX9_judge_30 (by decide) rfl ?_
    refine g_sub [3, 4, 1, 0] rfl ?_
    exact s_X9_judge_L32 C Rr FU a0 x1 (0 : Int32) (1 : Int32) h0 m4
  · refine g_aload_n C dX9_judge_10 1 rfl rfl ?_
    refine g_iload_n C dX9_judge_11 0 rfl rfl ?_
    refine g_callVi C cv_X9_error (ct_X9_error a0 r1 h0 m2) q_990 h0 (by decide) rfl rfl (Nat.le_of_ble_eq_true rfl) dX9_judge_12 (fun r5 m6 => ?_)
    exact g_iret C Rr dX9_judge_15
theorem ct_X9_judge {Ω : OT} (a0 : Nat) (x1 : Int32) (h0 : tg a0 = 9) (m0 : Mem) : Ct Ω yX9_judge cX9_judge 7 (some .int) 4 [.ref (oF Ω a0), .int x1] m0 (f_X9_judge a0 x1 m0) := by
  refine Ct_of (by decide) (Nat.le_of_ble_eq_true rfl) ?_
  intro K hK C Rr
  subst hK
  exact s_X9_judge C Rr  a0 x1 h0 m0
