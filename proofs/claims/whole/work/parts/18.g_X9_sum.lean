def X9_sum_J27 (R : Nat → Mem → Res) (k9 : Nat → Mem → Res) (a0 : Nat) (m0 : Mem) : Res :=
  cal (f_X9_look a0 m0) (fun r1 m2 =>
  bnd (mset m2 a0 5 ((m2 a0 5) + (1 : Int32))) (fun m3 =>
  cal (f_X9_product R a0 m3) (fun r4 m5 =>
  (if r4 = 0 then
  gd (isb (0 : Int32)) (some ((0 : Int32), m5))
  else
  cal (f_X9_lays a0 (3 : Int32) r1 m5) (fun r6 m7 =>
  k9 a0 m7)))))
def X9_sum_L9B (R : Nat → Mem → Res) (k9 : Nat → Mem → Res) (a0 : Nat) (m0 : Mem) : Res :=
  cal (f_X9_look a0 m0) (fun r1 m2 =>
  (if r1 = (43 : Int32) then
  X9_sum_J27 R k9 a0 m2
  else
  cal (f_X9_look a0 m2) (fun r3 m4 =>
  (if r3 = (45 : Int32) then
  X9_sum_J27 R k9 a0 m4
  else
  gd (isb (1 : Int32)) (some ((1 : Int32), m4))))))
def X9_sum_L9 (R : Nat → Mem → Res)  : Nat → Nat → Mem → Res
  | 0 => fun _ _ => none
  | n + 1 => X9_sum_L9B R (X9_sum_L9 R n)
def f_X9_sum (R : Nat → Mem → Res) (a0 : Nat) (m0 : Mem) : Res :=
  cal (f_X9_product R a0 m0) (fun r1 m2 =>
  (if r1 = 0 then
  gd (isb (0 : Int32)) (some ((0 : Int32), m2))
  else
  X9_sum_L9 R FU a0 m2))
set_option maxHeartbeats 2000000 in
theorem s_X9_sum_J27 {K : KT} {R : Nat → Mem → Res} {dR : Nat} (C : Cx K cX9_sum RX9 2 (dR + 2)) (Rr : Rx K (some .boolean)) (hR : ∀ (a0 : Nat) (h0 : tg a0 = 9) (m0 : Mem), Ct (kO K) yX9_one cX9_one 4 (some .boolean) dR [.ref (oF (kO K) a0)] m0 (R a0 m0)) (hd : 8 ≤ dR) {k9 : Nat → Mem → Res} (hk9 : ∀ (a0 : Nat) (h0 : tg a0 = 9) (m0 : Mem), G K 9 [(0, .ref (kf K a0))] [] m0 (k9 a0 m0)) (a0 : Nat) (h0 : tg a0 = 9) (m0 : Mem) : G K 27 [(0, .ref (kf K a0))] [] m0 (X9_sum_J27 R k9 a0 m0) := by
  unfold X9_sum_J27
  refine g_aload_n C dX9_sum_27 0 rfl rfl ?_
  refine g_callVi C cv_X9_look (ct_X9_look a0 h0 m0) q_1110 h0 (by omega) rfl rfl (Nat.le_of_ble_eq_true rfl) dX9_sum_28 (fun r1 m2 => ?_)
  refine g_istore_n C dX9_sum_31 rfl (by decide) rfl ?_
  refine g_aload_n C dX9_sum_32 1 rfl rfl ?_
  refine g_dup C dX9_sum_33 rfl ?_
  refine g_geti C 5 Fx9 h0 (by decide) rfl rfl q_924 dX9_sum_34 ?_
  refine g_iconst C (1 : Int32) dX9_sum_37 rfl ?_
  refine g_iadd C dX9_sum_38 ?_
  refine g_puti C 5 Fx9 h0 (by decide) rfl rfl rfl rfl q_924 dX9_sum_39 (fun m3 => ?_)
  refine g_aload_n C dX9_sum_42 1 rfl rfl ?_
  refine g_callVi C cv_X9_product (ct_X9_product hR hd a0 h0 m3) q_1102 h0 (by omega) rfl rfl (Nat.le_of_ble_eq_true rfl) dX9_sum_43 (fun r4 m5 => ?_)
  refine g_if_ne C 51 dX9_sum_46 (by decide) (fun _ => ?_) (fun _ => ?_)
  · refine g_aload_n C dX9_sum_51 1 rfl rfl ?_
    refine g_iconst C (3 : Int32) dX9_sum_52 rfl ?_
    refine g_iload_n C dX9_sum_53 0 rfl rfl ?_
    refine g_callVv C cv_X9_lays (ct_X9_lays a0 (3 : Int32) r1 h0 m5) q_1118 h0 (by omega) rfl rfl (Nat.le_of_ble_eq_true rfl) dX9_sum_54 (fun r6 m7 => ?_)
    refine g_goto C 9 dX9_sum_57 (by decide) ?_
    refine g_sub [1] rfl ?_
    exact hk9 a0 h0 m7
  · refine g_iconst C (0 : Int32) dX9_sum_49 rfl ?_
    exact g_zret C Rr dX9_sum_50
set_option maxHeartbeats 2000000 in
theorem s_X9_sum_L9B {K : KT} {R : Nat → Mem → Res} {dR : Nat} (C : Cx K cX9_sum RX9 2 (dR + 2)) (Rr : Rx K (some .boolean)) (hR : ∀ (a0 : Nat) (h0 : tg a0 = 9) (m0 : Mem), Ct (kO K) yX9_one cX9_one 4 (some .boolean) dR [.ref (oF (kO K) a0)] m0 (R a0 m0)) (hd : 8 ≤ dR) {k9 : Nat → Mem → Res} (hk9 : ∀ (a0 : Nat) (h0 : tg a0 = 9) (m0 : Mem), G K 9 [(0, .ref (kf K a0))] [] m0 (k9 a0 m0)) (a0 : Nat) (h0 : tg a0 = 9) (m0 : Mem) : G K 9 [(0, .ref (kf K a0))] [] m0 (X9_sum_L9B R k9 a0 m0) := by
  unfold X9_sum_L9B
  refine g_aload_n C dX9_sum_9 0 rfl rfl ?_
  refine g_callVi C cv_X9_look (ct_X9_look a0 h0 m0) q_1110 h0 (by omega) rfl rfl (Nat.le_of_ble_eq_true rfl) dX9_sum_10 (fun r1 m2 => ?_)
  refine g_bipush C (43 : Int32) dX9_sum_13 rfl ?_
  refine g_icmp_eq C 27 dX9_sum_15 (by decide) (fun _ => ?_) (fun _ => ?_)
  · refine g_sub [0] rfl ?_
    exact s_X9_sum_J27 C Rr hR hd hk9 a0 h0 m2
  · refine g_aload_n C dX9_sum_18 0 rfl rfl ?_
    refine g_callVi C cv_X9_look (ct_X9_look a0 h0 m2) q_1110 h0 (by omega) rfl rfl (Nat.le_of_ble_eq_true rfl) dX9_sum_19 (fun r3 m4 => ?_)
    refine g_bipush C (45 : Int32) dX9_sum_22 rfl ?_
    refine g_icmp_ne C 60 dX9_sum_24 (by decide) (fun _ => ?_) (fun _ => ?_)
    · refine g_iconst C (1 : Int32) dX9_sum_60 rfl ?_
      exact g_zret C Rr dX9_sum_61
    · refine g_sub [0] rfl ?_
      exact s_X9_sum_J27 C Rr hR hd hk9 a0 h0 m4
theorem s_X9_sum_L9 {K : KT} {R : Nat → Mem → Res} {dR : Nat} (C : Cx K cX9_sum RX9 2 (dR + 2)) (Rr : Rx K (some .boolean)) (hR : ∀ (a0 : Nat) (h0 : tg a0 = 9) (m0 : Mem), Ct (kO K) yX9_one cX9_one 4 (some .boolean) dR [.ref (oF (kO K) a0)] m0 (R a0 m0)) (hd : 8 ≤ dR)   : ∀ (n : Nat) (a0 : Nat) (h0 : tg a0 = 9) (m0 : Mem), G K 9 [(0, .ref (kf K a0))] [] m0 (X9_sum_L9 R n a0 m0) := by
  intro n
  induction n with
  | zero => intros; exact g_none
  | succ n ih =>
    intro a0 h0 m0
    exact s_X9_sum_L9B C Rr hR hd ih a0 h0 m0
set_option maxHeartbeats 2000000 in
theorem s_X9_sum {K : KT} {R : Nat → Mem → Res} {dR : Nat} (C : Cx K cX9_sum RX9 2 (dR + 2)) (Rr : Rx K (some .boolean)) (hR : ∀ (a0 : Nat) (h0 : tg a0 = 9) (m0 : Mem), Ct (kO K) yX9_one cX9_one 4 (some .boolean) dR [.ref (oF (kO K) a0)] m0 (R a0 m0)) (hd : 8 ≤ dR) (a0 : Nat) (h0 : tg a0 = 9) (m0 : Mem) : G K 0 [(0, .ref (kf K a0))] [] m0 (f_X9_sum R a0 m0) := by
  unfold f_X9_sum
  refine g_aload_n C dX9_sum_0 0 rfl rfl ?_
  refine g_callVi C cv_X9_product (ct_X9_product hR hd a0 h0 m0) q_1102 h0 (by omega) rfl rfl (Nat.le_of_ble_eq_true rfl) dX9_sum_1 (fun r1 m2 => ?_)
  refine g_if_ne C 9 dX9_sum_4 (by decide) (fun _ => ?_) (fun _ => ?_)
  · refine g_sub [0] rfl ?_
    exact s_X9_sum_L9 C Rr hR hd FU a0 h0 m2
  · refine g_iconst C (0 : Int32) dX9_sum_7 rfl ?_
    exact g_zret C Rr dX9_sum_8
theorem ct_X9_sum {Ω : OT} {R : Nat → Mem → Res} {dR : Nat} (hR : ∀ (a0 : Nat) (h0 : tg a0 = 9) (m0 : Mem), Ct Ω yX9_one cX9_one 4 (some .boolean) dR [.ref (oF Ω a0)] m0 (R a0 m0)) (hd : 8 ≤ dR) (a0 : Nat) (h0 : tg a0 = 9) (m0 : Mem) : Ct Ω yX9_sum cX9_sum 2 (some .boolean) (dR + 2) [.ref (oF Ω a0)] m0 (f_X9_sum R a0 m0) := by
  refine Ct_of (by decide) (Nat.le_of_ble_eq_true rfl) ?_
  intro K hK C Rr
  subst hK
  exact s_X9_sum C Rr hR hd a0 h0 m0
def X9_compared_J34 (R : Nat → Mem → Res)  (a0 : Nat) (x1 : Int32) (m0 : Mem) : Res :=
  bnd (mset m0 a0 5 ((m0 a0 5) + (1 : Int32))) (fun m1 =>
  cal (f_X9_sum R a0 m1) (fun r2 m3 =>
  (if r2 = 0 then
  gd (isb (0 : Int32)) (some ((0 : Int32), m3))
  else
  cal (f_X9_lays a0 (3 : Int32) x1 m3) (fun r4 m5 =>
  gd (isb (1 : Int32)) (some ((1 : Int32), m5))))))
def f_X9_compared (R : Nat → Mem → Res) (a0 : Nat) (m0 : Mem) : Res :=
  cal (f_X9_sum R a0 m0) (fun r1 m2 =>
  (if r1 = 0 then
  gd (isb (0 : Int32)) (some ((0 : Int32), m2))
  else
  cal (f_X9_look a0 m2) (fun r3 m4 =>
  (if r3 = (60 : Int32) then
  X9_compared_J34 R a0 r3 m4
  else
  (if r3 = (61 : Int32) then
  X9_compared_J34 R a0 r3 m4
  else
  (if r3 = (62 : Int32) then
  X9_compared_J34 R a0 r3 m4
  else
  gd (isb (1 : Int32)) (some ((1 : Int32), m4))))))))
set_option maxHeartbeats 2000000 in
theorem s_X9_compared_J34 {K : KT} {R : Nat → Mem → Res} {dR : Nat} (C : Cx K cX9_compared RX9 2 (dR + 3)) (Rr : Rx K (some .boolean)) (hR : ∀ (a0 : Nat) (h0 : tg a0 = 9) (m0 : Mem), Ct (kO K) yX9_one cX9_one 4 (some .boolean) dR [.ref (oF (kO K) a0)] m0 (R a0 m0)) (hd : 8 ≤ dR)   (a0 : Nat) (x1 : Int32) (h0 : tg a0 = 9) (m0 : Mem) : G K 34 [(0, .ref (kf K a0)), (1, .int x1)] [] m0 (X9_compared_J34 R a0 x1 m0) := by
  unfold X9_compared_J34
  refine g_aload_n C dX9_compared_34 0 rfl rfl ?_
  refine g_dup C dX9_compared_35 rfl ?_
  refine g_geti C 5 Fx9 h0 (by decide) rfl rfl q_924 dX9_compared_36 ?_
  refine g_iconst C (1 : Int32) dX9_compared_39 rfl ?_
  refine g_iadd C dX9_compared_40 ?_
  refine g_puti C 5 Fx9 h0 (by decide) rfl rfl rfl rfl q_924 dX9_compared_41 (fun m1 => ?_)
  refine g_aload_n C dX9_compared_44 0 rfl rfl ?_
  refine g_callVi C cv_X9_sum (ct_X9_sum hR hd a0 h0 m1) q_1098 h0 (by omega) rfl rfl (Nat.le_of_ble_eq_true rfl) dX9_compared_45 (fun r2 m3 => ?_)
  refine g_if_ne C 53 dX9_compared_48 (by decide) (fun _ => ?_) (fun _ => ?_)
  · refine g_aload_n C dX9_compared_53 0 rfl rfl ?_
    refine g_iconst C (3 : Int32) dX9_compared_54 rfl ?_
    refine g_iload_n C dX9_compared_55 1 rfl rfl ?_
    refine g_callVv C cv_X9_lays (ct_X9_lays a0 (3 : Int32) x1 h0 m3) q_1118 h0 (by omega) rfl rfl (Nat.le_of_ble_eq_true rfl) dX9_compared_56 (fun r4 m5 => ?_)
    refine g_iconst C (1 : Int32) dX9_compared_59 rfl ?_
    exact g_zret C Rr dX9_compared_60
  · refine g_iconst C (0 : Int32) dX9_compared_51 rfl ?_
    exact g_zret C Rr dX9_compared_52
set_option maxHeartbeats 2000000 in
theorem s_X9_compared {K : KT} {R : Nat → Mem → Res} {dR : Nat} (C : Cx K cX9_compared RX9 2 (dR + 3)) (Rr : Rx K (some .boolean)) (hR : ∀ (a0 : Nat) (h0 : tg a0 = 9) (m0 : Mem), Ct (kO K) yX9_one cX9_one 4 (some .boolean) dR [.ref (oF (kO K) a0)] m0 (R a0 m0)) (hd : 8 ≤ dR) (a0 : Nat) (h0 : tg a0 = 9) (m0 : Mem) : G K 0 [(0, .ref (kf K a0))] [] m0 (f_X9_compared R a0 m0) := by
  unfold f_X9_compared
  refine g_aload_n C dX9_compared_0 0 rfl rfl ?_
  refine g_callVi C cv_X9_sum (ct_X9_sum hR hd a0 h0 m0) q_1098 h0 (by omega) rfl rfl (Nat.le_of_ble_eq_true rfl) dX9_compared_1 (fun r1 m2 => ?_)
  refine g_if_ne C 9 dX9_compared_4 (by decide) (fun _ => ?_) (fun _ => ?_)
  · refine g_aload_n C dX9_compared_9 0 rfl rfl ?_
    refine g_callVi C cv_X9_look (ct_X9_look a0 h0 m2) q_1110 h0 (by omega) rfl rfl (Nat.le_of_ble_eq_true rfl) dX9_compared_10 (fun r3 m4 => ?_)
    refine g_istore_n C dX9_compared_13 rfl (by decide) rfl ?_
    refine g_iload_n C dX9_compared_14 0 rfl rfl ?_
    refine g_bipush C (60 : Int32) dX9_compared_15 rfl ?_
    refine g_icmp_eq C 34 dX9_compared_17 (by decide) (fun _ => ?_) (fun _ => ?_)
    · refine g_sub [1, 0] rfl ?_
      exact s_X9_compared_J34 C Rr hR hd a0 r3 h0 m4
    · refine g_iload_n C dX9_compared_20 0 rfl rfl ?_
      refine g_bipush C (61 : Int32) dX9_compared_21 rfl ?_
      refine g_icmp_eq C 34 dX9_compared_23 (by decide) (fun _ => ?_) (fun _ => ?_)
      · refine g_sub [1, 0] rfl ?_
        exact s_X9_compared_J34 C Rr hR hd a0 r3 h0 m4
      · refine g_iload_n C dX9_compared_26 0 rfl rfl ?_
        refine g_bipush C (62 : Int32) dX9_compared_27 rfl ?_
        refine g_icmp_eq C 34 dX9_compared_29 (by decide) (fun _ => ?_) (fun _ => ?_)
        · refine g_sub [1, 0] rfl ?_
          exact s_X9_compared_J34 C Rr hR hd a0 r3 h0 m4
        · refine g_iconst C (1 : Int32) dX9_compared_32 rfl ?_
          exact g_zret C Rr dX9_compared_33
  · refine g_iconst C (0 : Int32) dX9_compared_7 rfl ?_
    exact g_zret C Rr dX9_compared_8
theorem ct_X9_compared {Ω : OT} {R : Nat → Mem → Res} {dR : Nat} (hR : ∀ (a0 : Nat) (h0 : tg a0 = 9) (m0 : Mem), Ct Ω yX9_one cX9_one 4 (some .boolean) dR [.ref (oF Ω a0)] m0 (R a0 m0)) (hd : 8 ≤ dR) (a0 : Nat) (h0 : tg a0 = 9) (m0 : Mem) : Ct Ω yX9_compared cX9_compared 2 (some .boolean) (dR + 3) [.ref (oF Ω a0)] m0 (f_X9_compared R a0 m0) := by
  refine Ct_of (by decide) (Nat.le_of_ble_eq_true rfl) ?_
  intro K hK C Rr
  subst hK
  exact s_X9_compared C Rr hR hd a0 h0 m0
def X9_both_L9B (R : Nat → Mem → Res) (k9 : Nat → Mem → Res) (a0 : Nat) (m0 : Mem) : Res :=
  cal (f_X9_look a0 m0) (fun r1 m2 =>
  (if r1 = (38 : Int32) then
  bnd (mset m2 a0 5 ((m2 a0 5) + (1 : Int32))) (fun m3 =>
  cal (f_X9_compared R a0 m3) (fun r4 m5 =>
  (if r4 = 0 then
  gd (isb (0 : Int32)) (some ((0 : Int32), m5))
  else
  cal (f_X9_lays a0 (3 : Int32) (38 : Int32) m5) (fun r6 m7 =>
  k9 a0 m7))))
  else
  gd (isb (1 : Int32)) (some ((1 : Int32), m2))))
def X9_both_L9 (R : Nat → Mem → Res)  : Nat → Nat → Mem → Res
  | 0 => fun _ _ => none
  | n + 1 => X9_both_L9B R (X9_both_L9 R n)
def f_X9_both (R : Nat → Mem → Res) (a0 : Nat) (m0 : Mem) : Res :=
  cal (f_X9_compared R a0 m0) (fun r1 m2 =>
  (if r1 = 0 then
  gd (isb (0 : Int32)) (some ((0 : Int32), m2))
  else
  X9_both_L9 R FU a0 m2))
set_option maxHeartbeats 2000000 in
theorem s_X9_both_L9B {K : KT} {R : Nat → Mem → Res} {dR : Nat} (C : Cx K cX9_both RX9 1 (dR + 4)) (Rr : Rx K (some .boolean)) (hR : ∀ (a0 : Nat) (h0 : tg a0 = 9) (m0 : Mem), Ct (kO K) yX9_one cX9_one 4 (some .boolean) dR [.ref (oF (kO K) a0)] m0 (R a0 m0)) (hd : 8 ≤ dR) {k9 : Nat → Mem → Res} (hk9 : ∀ (a0 : Nat) (h0 : tg a0 = 9) (m0 : Mem), G K 9 [(0, .ref (kf K a0))] [] m0 (k9 a0 m0)) (a0 : Nat) (h0 : tg a0 = 9) (m0 : Mem) : G K 9 [(0, .ref (kf K a0))] [] m0 (X9_both_L9B R k9 a0 m0) := by
  unfold X9_both_L9B
  refine g_aload_n C dX9_both_9 0 rfl rfl ?_
  refine g_callVi C cv_X9_look (ct_X9_look a0 h0 m0) q_1110 h0 (by omega) rfl rfl (Nat.le_of_ble_eq_true rfl) dX9_both_10 (fun r1 m2 => ?_)
  refine g_bipush C (38 : Int32) dX9_both_13 rfl ?_
  refine g_icmp_ne C 47 dX9_both_15 (by decide) (fun _ => ?_) (fun _ => ?_)
  · refine g_iconst C (1 : Int32) dX9_both_47 rfl ?_
    exact g_zret C Rr dX9_both_48
  · refine g_aload_n C dX9_both_18 0 rfl rfl ?_
    refine g_dup C dX9_both_19 rfl ?_
    refine g_geti C 5 Fx9 h0 (by decide) rfl rfl q_924 dX9_both_20 ?_
    refine g_iconst C (1 : Int32) dX9_both_23 rfl ?_
    refine g_iadd C dX9_both_24 ?_
    refine g_puti C 5 Fx9 h0 (by decide) rfl rfl rfl rfl q_924 dX9_both_25 (fun m3 => ?_)
    refine g_aload_n C dX9_both_28 0 rfl rfl ?_
    refine g_callVi C cv_X9_compared (ct_X9_compared hR hd a0 h0 m3) q_1094 h0 (by omega) rfl rfl (Nat.le_of_ble_eq_true rfl) dX9_both_29 (fun r4 m5 => ?_)
    refine g_if_ne C 37 dX9_both_32 (by decide) (fun _ => ?_) (fun _ => ?_)
    · refine g_aload_n C dX9_both_37 0 rfl rfl ?_
      refine g_iconst C (3 : Int32) dX9_both_38 rfl ?_
      refine g_bipush C (38 : Int32) dX9_both_39 rfl ?_
      refine g_callVv C cv_X9_lays (ct_X9_lays a0 (3 : Int32) (38 : Int32) h0 m5) q_1118 h0 (by omega) rfl rfl (Nat.le_of_ble_eq_true rfl) dX9_both_41 (fun r6 m7 => ?_)
      refine g_goto C 9 dX9_both_44 (by decide) ?_
      refine g_sub [0] rfl ?_
      exact hk9 a0 h0 m7
    · refine g_iconst C (0 : Int32) dX9_both_35 rfl ?_
      exact g_zret C Rr dX9_both_36
theorem s_X9_both_L9 {K : KT} {R : Nat → Mem → Res} {dR : Nat} (C : Cx K cX9_both RX9 1 (dR + 4)) (Rr : Rx K (some .boolean)) (hR : ∀ (a0 : Nat) (h0 : tg a0 = 9) (m0 : Mem), Ct (kO K) yX9_one cX9_one 4 (some .boolean) dR [.ref (oF (kO K) a0)] m0 (R a0 m0)) (hd : 8 ≤ dR)   : ∀ (n : Nat) (a0 : Nat) (h0 : tg a0 = 9) (m0 : Mem), G K 9 [(0, .ref (kf K a0))] [] m0 (X9_both_L9 R n a0 m0) := by
  intro n
  induction n with
  | zero => intros; exact g_none
  | succ n ih =>
    intro a0 h0 m0
    exact s_X9_both_L9B C Rr hR hd ih a0 h0 m0
set_option maxHeartbeats 2000000 in
theorem s_X9_both {K : KT} {R : Nat → Mem → Res} {dR : Nat} (C : Cx K cX9_both RX9 1 (dR + 4)) (Rr : Rx K (some .boolean)) (hR : ∀ (a0 : Nat) (h0 : tg a0 = 9) (m0 : Mem), Ct (kO K) yX9_one cX9_one 4 (some .boolean) dR [.ref (oF (kO K) a0)] m0 (R a0 m0)) (hd : 8 ≤ dR) (a0 : Nat) (h0 : tg a0 = 9) (m0 : Mem) : G K 0 [(0, .ref (kf K a0))] [] m0 (f_X9_both R a0 m0) := by
  unfold f_X9_both
  refine g_aload_n C dX9_both_0 0 rfl rfl ?_
  refine g_callVi C cv_X9_compared (ct_X9_compared hR hd a0 h0 m0) q_1094 h0 (by omega) rfl rfl (Nat.le_of_ble_eq_true rfl) dX9_both_1 (fun r1 m2 => ?_)
  refine g_if_ne C 9 dX9_both_4 (by decide) (fun _ => ?_) (fun _ => ?_)
  · refine g_sub [0] rfl ?_
    exact s_X9_both_L9 C Rr hR hd FU a0 h0 m2
  · refine g_iconst C (0 : Int32) dX9_both_7 rfl ?_
    exact g_zret C Rr dX9_both_8
theorem ct_X9_both {Ω : OT} {R : Nat → Mem → Res} {dR : Nat} (hR : ∀ (a0 : Nat) (h0 : tg a0 = 9) (m0 : Mem), Ct Ω yX9_one cX9_one 4 (some .boolean) dR [.ref (oF Ω a0)] m0 (R a0 m0)) (hd : 8 ≤ dR) (a0 : Nat) (h0 : tg a0 = 9) (m0 : Mem) : Ct Ω yX9_both cX9_both 1 (some .boolean) (dR + 4) [.ref (oF Ω a0)] m0 (f_X9_both R a0 m0) := by
  refine Ct_of (by decide) (Nat.le_of_ble_eq_true rfl) ?_
  intro K hK C Rr
  subst hK
  exact s_X9_both C Rr hR hd a0 h0 m0
def X9_whole_L9B (R : Nat → Mem → Res) (k9 : Nat → Mem → Res) (a0 : Nat) (m0 : Mem) : Res :=
  cal (f_X9_look a0 m0) (fun r1 m2 =>
  (if r1 = (124 : Int32) then
  bnd (mset m2 a0 5 ((m2 a0 5) + (1 : Int32))) (fun m3 =>
  cal (f_X9_both R a0 m3) (fun r4 m5 =>
  (if r4 = 0 then
  gd (isb (0 : Int32)) (some ((0 : Int32), m5))
  else
  cal (f_X9_lays a0 (3 : Int32) (124 : Int32) m5) (fun r6 m7 =>
  k9 a0 m7))))
  else
  gd (isb (1 : Int32)) (some ((1 : Int32), m2))))
def X9_whole_L9 (R : Nat → Mem → Res)  : Nat → Nat → Mem → Res
  | 0 => fun _ _ => none
  | n + 1 => X9_whole_L9B R (X9_whole_L9 R n)
def f_X9_whole (R : Nat → Mem → Res) (a0 : Nat) (m0 : Mem) : Res :=
  cal (f_X9_both R a0 m0) (fun r1 m2 =>
  (if r1 = 0 then
  gd (isb (0 : Int32)) (some ((0 : Int32), m2))
  else
  X9_whole_L9 R FU a0 m2))
set_option maxHeartbeats 2000000 in
theorem s_X9_whole_L9B {K : KT} {R : Nat → Mem → Res} {dR : Nat} (C : Cx K cX9_whole RX9 1 (dR + 5)) (Rr : Rx K (some .boolean)) (hR : ∀ (a0 : Nat) (h0 : tg a0 = 9) (m0 : Mem), Ct (kO K) yX9_one cX9_one 4 (some .boolean) dR [.ref (oF (kO K) a0)] m0 (R a0 m0)) (hd : 8 ≤ dR) {k9 : Nat → Mem → Res} (hk9 : ∀ (a0 : Nat) (h0 : tg a0 = 9) (m0 : Mem), G K 9 [(0, .ref (kf K a0))] [] m0 (k9 a0 m0)) (a0 : Nat) (h0 : tg a0 = 9) (m0 : Mem) : G K 9 [(0, .ref (kf K a0))] [] m0 (X9_whole_L9B R k9 a0 m0) := by
  unfold X9_whole_L9B
  refine g_aload_n C dX9_whole_9 0 rfl rfl ?_
  refine g_callVi C cv_X9_look (ct_X9_look a0 h0 m0) q_1110 h0 (by omega) rfl rfl (Nat.le_of_ble_eq_true rfl) dX9_whole_10 (fun r1 m2 => ?_)
  refine g_bipush C (124 : Int32) dX9_whole_13 rfl ?_
  refine g_icmp_ne C 47 dX9_whole_15 (by decide) (fun _ => ?_) (fun _ => ?_)
  · refine g_iconst C (1 : Int32) dX9_whole_47 rfl ?_
    exact g_zret C Rr dX9_whole_48
  · refine g_aload_n C dX9_whole_18 0 rfl rfl ?_
    refine g_dup C dX9_whole_19 rfl ?_
    refine g_geti C 5 Fx9 h0 (by decide) rfl rfl q_924 dX9_whole_20 ?_
    refine g_iconst C (1 : Int32) dX9_whole_23 rfl ?_
    refine g_iadd C dX9_whole_24 ?_
    refine g_puti C 5 Fx9 h0 (by decide) rfl rfl rfl rfl q_924 dX9_whole_25 (fun m3 => ?_)
    refine g_aload_n C dX9_whole_28 0 rfl rfl ?_
    refine g_callVi C cv_X9_both (ct_X9_both hR hd a0 h0 m3) q_1090 h0 (by omega) rfl rfl (Nat.le_of_ble_eq_true rfl) dX9_whole_29 (fun r4 m5 => ?_)
    refine g_if_ne C 37 dX9_whole_32 (by decide) (fun _ => ?_) (fun _ => ?_)
    · refine g_aload_n C dX9_whole_37 0 rfl rfl ?_
      refine g_iconst C (3 : Int32) dX9_whole_38 rfl ?_
      refine g_bipush C (124 : Int32) dX9_whole_39 rfl ?_
      refine g_callVv C cv_X9_lays (ct_X9_lays a0 (3 : Int32) (124 : Int32) h0 m5) q_1118 h0 (by omega) rfl rfl (Nat.le_of_ble_eq_true rfl) dX9_whole_41 (fun r6 m7 => ?_)
      refine g_goto C 9 dX9_whole_44 (by decide) ?_
      refine g_sub [0] rfl ?_
      exact hk9 a0 h0 m7
    · refine g_iconst C (0 : Int32) dX9_whole_35 rfl ?_
      exact g_zret C Rr dX9_whole_36
theorem s_X9_whole_L9 {K : KT} {R : Nat → Mem → Res} {dR : Nat} (C : Cx K cX9_whole RX9 1 (dR + 5)) (Rr : Rx K (some .boolean)) (hR : ∀ (a0 : Nat) (h0 : tg a0 = 9) (m0 : Mem), Ct (kO K) yX9_one cX9_one 4 (some .boolean) dR [.ref (oF (kO K) a0)] m0 (R a0 m0)) (hd : 8 ≤ dR)   : ∀ (n : Nat) (a0 : Nat) (h0 : tg a0 = 9) (m0 : Mem), G K 9 [(0, .ref (kf K a0))] [] m0 (X9_whole_L9 R n a0 m0) := by
  intro n
  induction n with
  | zero => intros; exact g_none
  | succ n ih =>
    intro a0 h0 m0
    exact s_X9_whole_L9B C Rr hR hd ih a0 h0 m0
set_option maxHeartbeats 2000000 in
theorem s_X9_whole {K : KT} {R : Nat → Mem → Res} {dR : Nat} (C : Cx K cX9_whole RX9 1 (dR + 5)) (Rr : Rx K (some .boolean)) (hR : ∀ (a0 : Nat) (h0 : tg a0 = 9) (m0 : Mem), Ct (kO K) yX9_one cX9_one 4 (some .boolean) dR [.ref (oF (kO K) a0)] m0 (R a0 m0)) (hd : 8 ≤ dR) (a0 : Nat) (h0 : tg a0 = 9) (m0 : Mem) : G K 0 [(0, .ref (kf K a0))] [] m0 (f_X9_whole R a0 m0) := by
  unfold f_X9_whole
  refine g_aload_n C dX9_whole_0 0 rfl rfl ?_
  refine g_callVi C cv_X9_both (ct_X9_both hR hd a0 h0 m0) q_1090 h0 (by omega) rfl rfl (Nat.le_of_ble_eq_true rfl) dX9_whole_1 (fun r1 m2 => ?_)
  refine g_if_ne C 9 dX9_whole_4 (by decide) (fun _ => ?_) (fun _ => ?_)
  · refine g_sub [0] rfl ?_
    exact s_X9_whole_L9 C Rr hR hd FU a0 h0 m2
  · refine g_iconst C (0 : Int32) dX9_whole_7 rfl ?_
    exact g_zret C Rr dX9_whole_8
theorem ct_X9_whole {Ω : OT} {R : Nat → Mem → Res} {dR : Nat} (hR : ∀ (a0 : Nat) (h0 : tg a0 = 9) (m0 : Mem), Ct Ω yX9_one cX9_one 4 (some .boolean) dR [.ref (oF Ω a0)] m0 (R a0 m0)) (hd : 8 ≤ dR) (a0 : Nat) (h0 : tg a0 = 9) (m0 : Mem) : Ct Ω yX9_whole cX9_whole 1 (some .boolean) (dR + 5) [.ref (oF Ω a0)] m0 (f_X9_whole R a0 m0) := by
  refine Ct_of (by decide) (Nat.le_of_ble_eq_true rfl) ?_
  intro K hK C Rr
  subst hK
  exact s_X9_whole C Rr hR hd a0 h0 m0
def f_X9_opens  (a0 : Nat) (m0 : Mem) : Res :=
  (if (m0 a0 6) = (5 : Int32) then
  gd (isb (0 : Int32)) (some ((0 : Int32), m0))
  else
  bnd (mset m0 a0 6 ((m0 a0 6) + (1 : Int32))) (fun m1 =>
  bnd (mset m1 a0 5 ((m1 a0 5) + (1 : Int32))) (fun m2 =>
  gd (isb (1 : Int32)) (some ((1 : Int32), m2)))))
set_option maxHeartbeats 2000000 in
theorem s_X9_opens {K : KT}  (C : Cx K cX9_opens RX9 1 1) (Rr : Rx K (some .boolean))  (a0 : Nat) (h0 : tg a0 = 9) (m0 : Mem) : G K 0 [(0, .ref (kf K a0))] [] m0 (f_X9_opens a0 m0) := by
  unfold f_X9_opens
  refine g_aload_n C dX9_opens_0 0 rfl rfl ?_
  refine g_geti C 6 Fx9 h0 (by decide) rfl rfl q_925 dX9_opens_1 ?_
  refine g_iconst C (5 : Int32) dX9_opens_4 rfl ?_
  refine g_icmp_ne C 10 dX9_opens_5 (by decide) (fun _ => ?_) (fun _ => ?_)
  · refine g_aload_n C dX9_opens_10 0 rfl rfl ?_
    refine g_dup C dX9_opens_11 rfl ?_
    refine g_geti C 6 Fx9 h0 (by decide) rfl rfl q_925 dX9_opens_12 ?_
    refine g_iconst C (1 : Int32) dX9_opens_15 rfl ?_
    refine g_iadd C dX9_opens_16 ?_
    refine g_puti C 6 Fx9 h0 (by decide) rfl rfl rfl rfl q_925 dX9_opens_17 (fun m1 => ?_)
    refine g_aload_n C dX9_opens_20 0 rfl rfl ?_
    refine g_dup C dX9_opens_21 rfl ?_
    refine g_geti C 5 Fx9 h0 (by decide) rfl rfl q_924 dX9_opens_22 ?_
    refine g_iconst C (1 : Int32) dX9_opens_25 rfl ?_
    refine g_iadd C dX9_opens_26 ?_
    refine g_puti C 5 Fx9 h0 (by decide) rfl rfl rfl rfl q_924 dX9_opens_27 (fun m2 => ?_)
    refine g_iconst C (1 : Int32) dX9_opens_30 rfl ?_
    exact g_zret C Rr dX9_opens_31
  · refine g_iconst C (0 : Int32) dX9_opens_8 rfl ?_
    exact g_zret C Rr dX9_opens_9
theorem ct_X9_opens {Ω : OT} (a0 : Nat) (h0 : tg a0 = 9) (m0 : Mem) : Ct Ω yX9_opens cX9_opens 1 (some .boolean) 1 [.ref (oF Ω a0)] m0 (f_X9_opens a0 m0) := by
  refine Ct_of (by decide) (Nat.le_of_ble_eq_true rfl) ?_
  intro K hK C Rr
  subst hK
  exact s_X9_opens C Rr  a0 h0 m0
def X9_one_J171 (R : Nat → Mem → Res)   (m0 : Mem) : Res :=
  gd (isb (0 : Int32)) (some ((0 : Int32), m0))
def X9_one_J122 (R : Nat → Mem → Res)   (m0 : Mem) : Res :=
  gd (isb (0 : Int32)) (some ((0 : Int32), m0))
def X9_one_J94 (R : Nat → Mem → Res)  (a0 : Nat) (x2 : Int32) (m0 : Mem) : Res :=
  cal (f_X9_lays a0 (0 : Int32) x2 m0) (fun r1 m2 =>
  gd (isb (1 : Int32)) (some ((1 : Int32), m2)))
def X9_one_L46B (R : Nat → Mem → Res) (k46 : Nat → Int32 → Int32 → Mem → Res) (a0 : Nat) (x2 : Int32) (x3 : Int32) (m0 : Mem) : Res :=
  (if (4 : Int32) ≤ x3 then
  X9_one_J94 R a0 x2 m0
  else
  cal (f_X9_look a0 m0) (fun r1 m2 =>
  cal (f_X9_in r1 (48 : Int32) (57 : Int32) m2) (fun r3 m4 =>
  (if r3 = 0 then
  X9_one_J94 R a0 x2 m4
  else
  cal (f_X9_look a0 m4) (fun r5 m6 =>
  bnd ((((10 : Int32) * x2) + r5) - (48 : Int32)) (fun y7 =>
  bnd (mset m6 a0 5 ((m6 a0 5) + (1 : Int32))) (fun m8 =>
  bnd (x3 + (1 : Int32)) (fun y9 =>
  k46 a0 y7 y9 m8))))))))
def X9_one_L46 (R : Nat → Mem → Res)  : Nat → Nat → Int32 → Int32 → Mem → Res
  | 0 => fun _ _ _ _ => none
  | n + 1 => X9_one_L46B R (X9_one_L46 R n)
def f_X9_one_B (R : Nat → Mem → Res) (a0 : Nat) (m0 : Mem) : Res :=
  cal (f_X9_look a0 m0) (fun r1 m2 =>
  cal (f_X9_isName a0 r1 m2) (fun r3 m4 =>
  (if r3 = 0 then
  cal (f_X9_in r1 (48 : Int32) (57 : Int32) m4) (fun r5 m6 =>
  (if r5 = 0 then
  (if r1 = (33 : Int32) then
  cal (f_X9_opens a0 m6) (fun r15 m16 =>
  (if r15 = 0 then
  X9_one_J122 R m16
  else
  cal (R a0 m16) (fun r17 m18 =>
  (if r17 = 0 then
  X9_one_J122 R m18
  else
  bnd (mset m18 a0 6 ((m18 a0 6) - (1 : Int32))) (fun m19 =>
  cal (f_X9_lays a0 (2 : Int32) (0 : Int32) m19) (fun r20 m21 =>
  gd (isb (1 : Int32)) (some ((1 : Int32), m21))))))))
  else
  (if r1 = (40 : Int32) then
  cal (f_X9_opens a0 m6) (fun r7 m8 =>
  (if r7 = 0 then
  X9_one_J171 R m8
  else
  cal (f_X9_whole R a0 m8) (fun r9 m10 =>
  (if r9 = 0 then
  X9_one_J171 R m10
  else
  cal (f_X9_look a0 m10) (fun r11 m12 =>
  (if r11 = (41 : Int32) then
  bnd (mset m12 a0 5 ((m12 a0 5) + (1 : Int32))) (fun m13 =>
  bnd (mset m13 a0 6 ((m13 a0 6) - (1 : Int32))) (fun m14 =>
  gd (isb (1 : Int32)) (some ((1 : Int32), m14))))
  else
  X9_one_J171 R m12))))))
  else
  X9_one_J171 R m6))
  else
  X9_one_L46 R FU a0 (0 : Int32) (0 : Int32) m6))
  else
  bnd (mset m4 a0 5 ((m4 a0 5) + (1 : Int32))) (fun m22 =>
  cal (f_X9_lays a0 (1 : Int32) r1 m22) (fun r23 m24 =>
  gd (isb (1 : Int32)) (some ((1 : Int32), m24)))))))
def f_X9_one : Nat → Nat → Mem → Res
  | 0 => fun _ _ => none
  | n + 1 => f_X9_one_B (f_X9_one n)
set_option maxHeartbeats 2000000 in
theorem s_X9_one_J171 {K : KT} {R : Nat → Mem → Res} {dR : Nat} (C : Cx K cX9_one RX9 4 (dR + 6)) (Rr : Rx K (some .boolean)) (hR : ∀ (a0 : Nat) (h0 : tg a0 = 9) (m0 : Mem), Ct (kO K) yX9_one cX9_one 4 (some .boolean) dR [.ref (oF (kO K) a0)] m0 (R a0 m0)) (hd : 8 ≤ dR)     (m0 : Mem) : G K 171 [] [] m0 (X9_one_J171 R m0) := by
  unfold X9_one_J171
  refine g_iconst C (0 : Int32) dX9_one_171 rfl ?_
  exact g_zret C Rr dX9_one_172
set_option maxHeartbeats 2000000 in
theorem s_X9_one_J122 {K : KT} {R : Nat → Mem → Res} {dR : Nat} (C : Cx K cX9_one RX9 4 (dR + 6)) (Rr : Rx K (some .boolean)) (hR : ∀ (a0 : Nat) (h0 : tg a0 = 9) (m0 : Mem), Ct (kO K) yX9_one cX9_one 4 (some .boolean) dR [.ref (oF (kO K) a0)] m0 (R a0 m0)) (hd : 8 ≤ dR)     (m0 : Mem) : G K 122 [] [] m0 (X9_one_J122 R m0) := by
  unfold X9_one_J122
  refine g_iconst C (0 : Int32) dX9_one_122 rfl ?_
  exact g_zret C Rr dX9_one_123
set_option maxHeartbeats 2000000 in
theorem s_X9_one_J94 {K : KT} {R : Nat → Mem → Res} {dR : Nat} (C : Cx K cX9_one RX9 4 (dR + 6)) (Rr : Rx K (some .boolean)) (hR : ∀ (a0 : Nat) (h0 : tg a0 = 9) (m0 : Mem), Ct (kO K) yX9_one cX9_one 4 (some .boolean) dR [.ref (oF (kO K) a0)] m0 (R a0 m0)) (hd : 8 ≤ dR)   (a0 : Nat) (x2 : Int32) (h0 : tg a0 = 9) (m0 : Mem) : G K 94 [(0, .ref (kf K a0)), (2, .int x2)] [] m0 (X9_one_J94 R a0 x2 m0) := by
  unfold X9_one_J94
  refine g_aload_n C dX9_one_94 0 rfl rfl ?_
  refine g_iconst C (0 : Int32) dX9_one_95 rfl ?_
  refine g_iload_n C dX9_one_96 1 rfl rfl ?_
  refine g_callVv C cv_X9_lays (ct_X9_lays a0 (0 : Int32) x2 h0 m0) q_1118 h0 (by omega) rfl rfl (Nat.le_of_ble_eq_true rfl) dX9_one_97 (fun r1 m2 => ?_)
  refine g_iconst C (1 : Int32) dX9_one_100 rfl ?_
  exact g_zret C Rr dX9_one_101
set_option maxHeartbeats 2000000 in
theorem s_X9_one_L46B {K : KT} {R : Nat → Mem → Res} {dR : Nat} (C : Cx K cX9_one RX9 4 (dR + 6)) (Rr : Rx K (some .boolean)) (hR : ∀ (a0 : Nat) (h0 : tg a0 = 9) (m0 : Mem), Ct (kO K) yX9_one cX9_one 4 (some .boolean) dR [.ref (oF (kO K) a0)] m0 (R a0 m0)) (hd : 8 ≤ dR) {k46 : Nat → Int32 → Int32 → Mem → Res} (hk46 : ∀ (a0 : Nat) (x2 : Int32) (x3 : Int32) (h0 : tg a0 = 9) (m0 : Mem), G K 46 [(0, .ref (kf K a0)), (2, .int x2), (3, .int x3)] [] m0 (k46 a0 x2 x3 m0)) (a0 : Nat) (x2 : Int32) (x3 : Int32) (h0 : tg a0 = 9) (m0 : Mem) : G K 46 [(0, .ref (kf K a0)), (2, .int x2), (3, .int x3)] [] m0 (X9_one_L46B R k46 a0 x2 x3 m0) := by
  unfold X9_one_L46B
  refine g_iload_n C dX9_one_46 2 rfl rfl ?_
  refine g_iconst C (4 : Int32) dX9_one_47 rfl ?_
  refine g_icmp_ge C 94 dX9_one_48 (by decide) (fun _ => ?_) (fun _ => ?_)
  · refine g_sub [0, 1] rfl ?_
    exact s_X9_one_J94 C Rr hR hd a0 x2 h0 m0
  · refine g_aload_n C dX9_one_51 0 rfl rfl ?_
    refine g_callVi C cv_X9_look (ct_X9_look a0 h0 m0) q_1110 h0 (by omega) rfl rfl (Nat.le_of_ble_eq_true rfl) dX9_one_52 (fun r1 m2 => ?_)
    refine g_bipush C (48 : Int32) dX9_one_55 rfl ?_
    refine g_bipush C (57 : Int32) dX9_one_57 rfl ?_
    refine g_callSi C cv_X9_in q_988 (ct_X9_in r1 (48 : Int32) (57 : Int32)  m2) q_987 (by omega) rfl rfl (Nat.le_of_ble_eq_true rfl) dX9_one_59 (fun r3 m4 => ?_)
    refine g_if_eq C 94 dX9_one_62 (by decide) (fun _ => ?_) (fun _ => ?_)
    · refine g_sub [0, 1] rfl ?_
      exact s_X9_one_J94 C Rr hR hd a0 x2 h0 m4
    · refine g_bipush C (10 : Int32) dX9_one_65 rfl ?_
      refine g_iload_n C dX9_one_67 1 rfl rfl ?_
      refine g_imul C dX9_one_68 ?_
      refine g_aload_n C dX9_one_69 0 rfl rfl ?_
      refine g_callVi C cv_X9_look (ct_X9_look a0 h0 m4) q_1110 h0 (by omega) rfl rfl (Nat.le_of_ble_eq_true rfl) dX9_one_70 (fun r5 m6 => ?_)
      refine g_iadd C dX9_one_73 ?_
      refine g_bipush C (48 : Int32) dX9_one_74 rfl ?_
      refine g_isub C dX9_one_76 ?_
      refine g_bnd (fun y7 => ?_)
      refine g_istore_n C dX9_one_77 rfl (by decide) rfl ?_
      refine g_aload_n C dX9_one_78 1 rfl rfl ?_
      refine g_dup C dX9_one_79 rfl ?_
      refine g_geti C 5 Fx9 h0 (by decide) rfl rfl q_924 dX9_one_80 ?_
      refine g_iconst C (1 : Int32) dX9_one_83 rfl ?_
      refine g_iadd C dX9_one_84 ?_
      refine g_puti C 5 Fx9 h0 (by decide) rfl rfl rfl rfl q_924 dX9_one_85 (fun m8 => ?_)
      refine g_iinc (k := 2) C dX9_one_88 rfl (w := (1 : Int32)) rfl (by decide) (fun v_ => [(3, .int v_), (2, .int y7), (0, .ref (kf K a0))]) (fun _ => rfl) (fun y9 => ?_)
      refine g_goto C 46 dX9_one_91 (by decide) ?_
      refine g_sub [2, 1, 0] rfl ?_
      exact hk46 a0 y7 y9 h0 m8
theorem s_X9_one_L46 {K : KT} {R : Nat → Mem → Res} {dR : Nat} (C : Cx K cX9_one RX9 4 (dR + 6)) (Rr : Rx K (some .boolean)) (hR : ∀ (a0 : Nat) (h0 : tg a0 = 9) (m0 : Mem), Ct (kO K) yX9_one cX9_one 4 (some .boolean) dR [.ref (oF (kO K) a0)] m0 (R a0 m0)) (hd : 8 ≤ dR)   : ∀ (n : Nat) (a0 : Nat) (x2 : Int32) (x3 : Int32) (h0 : tg a0 = 9) (m0 : Mem), G K 46 [(0, .ref (kf K a0)), (2, .int x2), (3, .int x3)] [] m0 (X9_one_L46 R n a0 x2 x3 m0) := by
  intro n
  induction n with
  | zero => intros; exact g_none
  | succ n ih =>
    intro a0 x2 x3 h0 m0
    exact s_X9_one_L46B C Rr hR hd ih a0 x2 x3 h0 m0
set_option maxHeartbeats 2000000 in
theorem s_X9_one_B {K : KT} {R : Nat → Mem → Res} {dR : Nat} (C : Cx K cX9_one RX9 4 (dR + 6)) (Rr : Rx K (some .boolean)) (hR : ∀ (a0 : Nat) (h0 : tg a0 = 9) (m0 : Mem), Ct (kO K) yX9_one cX9_one 4 (some .boolean) dR [.ref (oF (kO K) a0)] m0 (R a0 m0)) (hd : 8 ≤ dR) (a0 : Nat) (h0 : tg a0 = 9) (m0 : Mem) : G K 0 [(0, .ref (kf K a0))] [] m0 (f_X9_one_B R a0 m0) := by
  unfold f_X9_one_B
  refine g_aload_n C dX9_one_0 0 rfl rfl ?_
  refine g_callVi C cv_X9_look (ct_X9_look a0 h0 m0) q_1110 h0 (by omega) rfl rfl (Nat.le_of_ble_eq_true rfl) dX9_one_1 (fun r1 m2 => ?_)
  refine g_istore_n C dX9_one_4 rfl (by decide) rfl ?_
  refine g_aload_n C dX9_one_5 1 rfl rfl ?_
  refine g_iload_n C dX9_one_6 0 rfl rfl ?_
  refine g_callVi C cv_X9_isName (ct_X9_isName a0 r1 h0 m2) q_1114 h0 (by omega) rfl rfl (Nat.le_of_ble_eq_true rfl) dX9_one_7 (fun r3 m4 => ?_)
  refine g_if_eq C 31 dX9_one_10 (by decide) (fun _ => ?_) (fun _ => ?_)
  · refine g_iload_n C dX9_one_31 0 rfl rfl ?_
    refine g_bipush C (48 : Int32) dX9_one_32 rfl ?_
    refine g_bipush C (57 : Int32) dX9_one_34 rfl ?_
    refine g_callSi C cv_X9_in q_988 (ct_X9_in r1 (48 : Int32) (57 : Int32)  m4) q_987 (by omega) rfl rfl (Nat.le_of_ble_eq_true rfl) dX9_one_36 (fun r5 m6 => ?_)
    refine g_if_eq C 102 dX9_one_39 (by decide) (fun _ => ?_) (fun _ => ?_)
    · refine g_iload_n C dX9_one_102 0 rfl rfl ?_
      refine g_bipush C (33 : Int32) dX9_one_103 rfl ?_
      refine g_icmp_ne C 142 dX9_one_105 (by decide) (fun _ => ?_) (fun _ => ?_)
      · refine g_iload_n C dX9_one_142 0 rfl rfl ?_
        refine g_bipush C (40 : Int32) dX9_one_143 rfl ?_
        refine g_icmp_ne C 171 dX9_one_145 (by decide) (fun _ => ?_) (fun _ => ?_)
        · refine g_sub [] rfl ?_
          exact s_X9_one_J171 C Rr hR hd m6
        · refine g_aload_n C dX9_one_148 1 rfl rfl ?_
          refine g_callVi C cv_X9_opens (ct_X9_opens a0 h0 m6) q_1122 h0 (by omega) rfl rfl (Nat.le_of_ble_eq_true rfl) dX9_one_149 (fun r7 m8 => ?_)
          refine g_if_eq C 171 dX9_one_152 (by decide) (fun _ => ?_) (fun _ => ?_)
          · refine g_sub [] rfl ?_
            exact s_X9_one_J171 C Rr hR hd m8
          · refine g_aload_n C dX9_one_155 1 rfl rfl ?_
            refine g_callVi C cv_X9_whole (ct_X9_whole hR hd a0 h0 m8) q_1086 h0 (by omega) rfl rfl (Nat.le_of_ble_eq_true rfl) dX9_one_156 (fun r9 m10 => ?_)
            refine g_if_eq C 171 dX9_one_159 (by decide) (fun _ => ?_) (fun _ => ?_)
            · refine g_sub [] rfl ?_
              exact s_X9_one_J171 C Rr hR hd m10
            · refine g_aload_n C dX9_one_162 1 rfl rfl ?_
              refine g_callVi C cv_X9_look (ct_X9_look a0 h0 m10) q_1110 h0 (by omega) rfl rfl (Nat.le_of_ble_eq_true rfl) dX9_one_163 (fun r11 m12 => ?_)
              refine g_bipush C (41 : Int32) dX9_one_166 rfl ?_
              refine g_icmp_eq C 173 dX9_one_168 (by decide) (fun _ => ?_) (fun _ => ?_)
              · refine g_aload_n C dX9_one_173 1 rfl rfl ?_
                refine g_dup C dX9_one_174 rfl ?_
                refine g_geti C 5 Fx9 h0 (by decide) rfl rfl q_924 dX9_one_175 ?_
                refine g_iconst C (1 : Int32) dX9_one_178 rfl ?_
                refine g_iadd C dX9_one_179 ?_
                refine g_puti C 5 Fx9 h0 (by decide) rfl rfl rfl rfl q_924 dX9_one_180 (fun m13 => ?_)
                refine g_aload_n C dX9_one_183 1 rfl rfl ?_
                refine g_dup C dX9_one_184 rfl ?_
                refine g_geti C 6 Fx9 h0 (by decide) rfl rfl q_925 dX9_one_185 ?_
                refine g_iconst C (1 : Int32) dX9_one_188 rfl ?_
                refine g_isub C dX9_one_189 ?_
                refine g_puti C 6 Fx9 h0 (by decide) rfl rfl rfl rfl q_925 dX9_one_190 (fun m14 => ?_)
                refine g_iconst C (1 : Int32) dX9_one_193 rfl ?_
                exact g_zret C Rr dX9_one_194
              · refine g_sub [] rfl ?_
                exact s_X9_one_J171 C Rr hR hd m12
      · refine g_aload_n C dX9_one_108 1 rfl rfl ?_
        refine g_callVi C cv_X9_opens (ct_X9_opens a0 h0 m6) q_1122 h0 (by omega) rfl rfl (Nat.le_of_ble_eq_true rfl) dX9_one_109 (fun r15 m16 => ?_)
        refine g_if_eq C 122 dX9_one_112 (by decide) (fun _ => ?_) (fun _ => ?_)
        · refine g_sub [] rfl ?_
          exact s_X9_one_J122 C Rr hR hd m16
        · refine g_aload_n C dX9_one_115 1 rfl rfl ?_
          refine g_callVi C cv_X9_one (hR a0 h0 m16) q_1106 h0 (by omega) rfl rfl (Nat.le_of_ble_eq_true rfl) dX9_one_116 (fun r17 m18 => ?_)
          refine g_if_ne C 124 dX9_one_119 (by decide) (fun _ => ?_) (fun _ => ?_)
          · refine g_aload_n C dX9_one_124 1 rfl rfl ?_
            refine g_dup C dX9_one_125 rfl ?_
            refine g_geti C 6 Fx9 h0 (by decide) rfl rfl q_925 dX9_one_126 ?_
            refine g_iconst C (1 : Int32) dX9_one_129 rfl ?_
            refine g_isub C dX9_one_130 ?_
            refine g_puti C 6 Fx9 h0 (by decide) rfl rfl rfl rfl q_925 dX9_one_131 (fun m19 => ?_)
            refine g_aload_n C dX9_one_134 1 rfl rfl ?_
            refine g_iconst C (2 : Int32) dX9_one_135 rfl ?_
            refine g_iconst C (0 : Int32) dX9_one_136 rfl ?_
            refine g_callVv C cv_X9_lays (ct_X9_lays a0 (2 : Int32) (0 : Int32) h0 m19) q_1118 h0 (by omega) rfl rfl (Nat.le_of_ble_eq_true rfl) dX9_one_137 (fun r20 m21 => ?_)
            refine g_iconst C (1 : Int32) dX9_one_140 rfl ?_
            exact g_zret C Rr dX9_one_141
          · refine g_sub [] rfl ?_
            exact s_X9_one_J122 C Rr hR hd m18
    · refine g_iconst C (0 : Int32) dX9_one_42 rfl ?_
      refine g_istore_n C dX9_one_43 rfl (by decide) rfl ?_
      refine g_iconst C (0 : Int32) dX9_one_44 rfl ?_
      refine g_istore_n C dX9_one_45 rfl (by decide) rfl ?_
      refine g_sub [3, 1, 0] rfl ?_
      exact s_X9_one_L46 C Rr hR hd FU a0 (0 : Int32) (0 : Int32) h0 m6
  · refine g_aload_n C dX9_one_13 1 rfl rfl ?_
    refine g_dup C dX9_one_14 rfl ?_
    refine g_geti C 5 Fx9 h0 (by decide) rfl rfl q_924 dX9_one_15 ?_
    refine g_iconst C (1 : Int32) dX9_one_18 rfl ?_
    refine g_iadd C dX9_one_19 ?_
    refine g_puti C 5 Fx9 h0 (by decide) rfl rfl rfl rfl q_924 dX9_one_20 (fun m22 => ?_)
    refine g_aload_n C dX9_one_23 1 rfl rfl ?_
    refine g_iconst C (1 : Int32) dX9_one_24 rfl ?_
    refine g_iload_n C dX9_one_25 0 rfl rfl ?_
    refine g_callVv C cv_X9_lays (ct_X9_lays a0 (1 : Int32) r1 h0 m22) q_1118 h0 (by omega) rfl rfl (Nat.le_of_ble_eq_true rfl) dX9_one_26 (fun r23 m24 => ?_)
    refine g_iconst C (1 : Int32) dX9_one_29 rfl ?_
    exact g_zret C Rr dX9_one_30
theorem ct_X9_one {Ω : OT} : ∀ (n : Nat) (a0 : Nat) (h0 : tg a0 = 9) (m0 : Mem), Ct Ω yX9_one cX9_one 4 (some .boolean) (8 + 6 * n) [.ref (oF Ω a0)] m0 (f_X9_one n a0 m0) := by
  intro n
  induction n with
  | zero => intros; intro r μ' h; cases h
  | succ n ih =>
    intro a0 h0 m0
    refine Ct_of (by decide) (Nat.le_of_ble_eq_true rfl) ?_
    intro K hK C Rr
    subst hK
    exact s_X9_one_B (dR := 8 + 6 * n) C Rr ih (by omega) a0 h0 m0
def X9_hasText_J21   (xs0 : Int32) (m0 : Mem) : Res :=
  gd (isb xs0) (some (xs0, m0))
def f_X9_hasText  (a0 : Nat) (x1 : Int32) (m0 : Mem) : Res :=
  gd (inb ((182 : Int32) + ((125 : Int32) * x1)) 516) (
  (if (m0 (a0 + 1) ((182 : Int32) + ((125 : Int32) * x1)).toNatClampNeg) ≤ 0 then
  X9_hasText_J21 (0 : Int32) m0
  else
  X9_hasText_J21 (1 : Int32) m0))
set_option maxHeartbeats 2000000 in
theorem s_X9_hasText_J21 {K : KT}  (C : Cx K cX9_hasText RX9 2 1) (Rr : Rx K (some .boolean))    (xs0 : Int32)  (m0 : Mem) : G K 21 [] [.int xs0] m0 (X9_hasText_J21 xs0 m0) := by
  unfold X9_hasText_J21
  exact g_zret C Rr dX9_hasText_21
set_option maxHeartbeats 2000000 in
theorem s_X9_hasText {K : KT}  (C : Cx K cX9_hasText RX9 2 1) (Rr : Rx K (some .boolean))  (a0 : Nat) (x1 : Int32) (h0 : tg a0 = 9) (m0 : Mem) : G K 0 [(0, .ref (kf K a0)), (1, .int x1)] [] m0 (f_X9_hasText a0 x1 m0) := by
  unfold f_X9_hasText
  refine g_aload_n C dX9_hasText_0 0 rfl rfl ?_
  refine g_getr C 0 1 Fx9 h0 (by decide) rfl rfl q_919 dX9_hasText_1 ?_
  refine g_sipush C (182 : Int32) dX9_hasText_4 rfl ?_
  refine g_bipush C (125 : Int32) dX9_hasText_7 rfl ?_
  refine g_iload_n C dX9_hasText_9 1 rfl rfl ?_
  refine g_imul C dX9_hasText_10 ?_
  refine g_iadd C dX9_hasText_11 ?_
  refine g_iald (n := 516) C (cl_9_0 h0) dX9_hasText_12 (fun _ => ?_)
  refine g_if_le C 20 dX9_hasText_13 (by decide) (fun _ => ?_) (fun _ => ?_)
  · refine g_iconst C (0 : Int32) dX9_hasText_20 rfl ?_
    refine g_sub [] rfl ?_
    exact s_X9_hasText_J21 C Rr (0 : Int32) m0
  · refine g_iconst C (1 : Int32) dX9_hasText_16 rfl ?_
    refine g_goto C 21 dX9_hasText_17 (by decide) ?_
    refine g_sub [] rfl ?_
    exact s_X9_hasText_J21 C Rr (1 : Int32) m0
theorem ct_X9_hasText {Ω : OT} (a0 : Nat) (x1 : Int32) (h0 : tg a0 = 9) (m0 : Mem) : Ct Ω yX9_hasText cX9_hasText 2 (some .boolean) 1 [.ref (oF Ω a0), .int x1] m0 (f_X9_hasText a0 x1 m0) := by
  refine Ct_of (by decide) (Nat.le_of_ble_eq_true rfl) ?_
  intro K hK C Rr
  subst hK
  exact s_X9_hasText C Rr  a0 x1 h0 m0
def X9_text_L104B  (k104 : Nat → Int32 → Int32 → Mem → Res) (a0 : Nat) (x3 : Int32) (x4 : Int32) (m0 : Mem) : Res :=
  (if ((2 : Int32) * (m0 a0 7)) ≤ x4 then
  some ((1 : Int32), m0)
  else
  gd (inb x4 124) (
  gd (inb ((x3 + (1 : Int32)) + x4) 516) (bnd (mset m0 (a0 + 1) ((x3 + (1 : Int32)) + x4).toNatClampNeg (m0 (a0 + 5) x4.toNatClampNeg)) (fun m1 =>
  bnd (x4 + (1 : Int32)) (fun y2 =>
  k104 a0 x3 y2 m1)))))
def X9_text_L104   : Nat → Nat → Int32 → Int32 → Mem → Res
  | 0 => fun _ _ _ _ => none
  | n + 1 => X9_text_L104B (X9_text_L104 n)
def X9_text_J61   (a0 : Nat) (x1 : Int32) (xs0 : Int32) (m0 : Mem) : Res :=
  gd (inb (6 : Int32) 516) (bnd (mset m0 (a0 + 1) (6 : Int32).toNatClampNeg (0 : Int32)) (fun m1 =>
  (if xs0 = 0 then
  some ((-10 : Int32) - (m1 a0 5), m1)
  else
  bnd ((182 : Int32) + ((125 : Int32) * x1)) (fun y2 =>
  gd (inb y2 516) (bnd (mset m1 (a0 + 1) y2.toNatClampNeg (m1 a0 7)) (fun m3 =>
  X9_text_L104 FU a0 y2 (0 : Int32) m3))))))
def X9_text_J60   (a0 : Nat) (x1 : Int32) (m0 : Mem) : Res :=
  X9_text_J61 a0 x1 (0 : Int32) m0
def f_X9_text  (a0 : Nat) (x1 : Int32) (m0 : Mem) : Res :=
  cal (f_X9_in x1 (0 : Int32) (1 : Int32) m0) (fun r1 m2 =>
  (if r1 = 0 then
  cal (f_X9_error a0 (1 : Int32) m2) (fun r9 m10 =>
  some (r9, m10))
  else
  bnd (mset m2 a0 8 x1) (fun m3 =>
  bnd (mset m3 a0 5 (0 : Int32)) (fun m4 =>
  bnd (mset m4 a0 6 (0 : Int32)) (fun m5 =>
  bnd (mset m5 a0 7 (0 : Int32)) (fun m6 =>
  cal (f_X9_whole (f_X9_one RF) a0 m6) (fun r7 m8 =>
  (if r7 = 0 then
  X9_text_J60 a0 x1 m8
  else
  gd (inb (6 : Int32) 516) (
  (if (m8 a0 5) = (m8 (a0 + 1) (6 : Int32).toNatClampNeg) then
  X9_text_J61 a0 x1 (1 : Int32) m8
  else
  X9_text_J60 a0 x1 m8))))))))))
set_option maxHeartbeats 2000000 in
theorem s_X9_text_L104B {K : KT}  (C : Cx K cX9_text RX9 5 158) (Rr : Rx K (some .int))  {k104 : Nat → Int32 → Int32 → Mem → Res} (hk104 : ∀ (a0 : Nat) (x3 : Int32) (x4 : Int32) (h0 : tg a0 = 9) (m0 : Mem), G K 104 [(0, .ref (kf K a0)), (3, .int x3), (4, .int x4)] [] m0 (k104 a0 x3 x4 m0)) (a0 : Nat) (x3 : Int32) (x4 : Int32) (h0 : tg a0 = 9) (m0 : Mem) : G K 104 [(0, .ref (kf K a0)), (3, .int x3), (4, .int x4)] [] m0 (X9_text_L104B k104 a0 x3 x4 m0) := by
  unfold X9_text_L104B
  refine g_iload C dX9_text_104 2 rfl ?_
  refine g_iconst C (2 : Int32) dX9_text_106 rfl ?_
  refine g_aload_n C dX9_text_107 0 rfl rfl ?_
  refine g_geti C 7 Fx9 h0 (by decide) rfl rfl q_926 dX9_text_108 ?_
  refine g_imul C dX9_text_111 ?_
  refine g_icmp_ge C 139 dX9_text_112 (by decide) (fun _ => ?_) (fun _ => ?_)
  · refine g_iconst C (1 : Int32) dX9_text_139 rfl ?_
    exact g_iret C Rr dX9_text_140
  · refine g_aload_n C dX9_text_115 0 rfl rfl ?_
    refine g_getr C 0 1 Fx9 h0 (by decide) rfl rfl q_919 dX9_text_116 ?_
    refine g_iload_n C dX9_text_119 1 rfl rfl ?_
    refine g_iconst C (1 : Int32) dX9_text_120 rfl ?_
    refine g_iadd C dX9_text_121 ?_
    refine g_iload C dX9_text_122 2 rfl ?_
    refine g_iadd C dX9_text_124 ?_
    refine g_aload_n C dX9_text_125 0 rfl rfl ?_
    refine g_getr C 9 5 Fx9 h0 (by decide) rfl rfl q_928 dX9_text_126 ?_
    refine g_iload C dX9_text_129 2 rfl ?_
    refine g_iald (n := 124) C (cl_9_9 h0) dX9_text_131 (fun _ => ?_)
    refine g_iast (n := 516) C (cl_9_0 h0) dX9_text_132 (fun m1 => ?_)
    refine g_iinc (k := 2) C dX9_text_133 rfl (w := (1 : Int32)) rfl (by decide) (fun v_ => [(4, .int v_), (0, .ref (kf K a0)), (3, .int x3)]) (fun _ => rfl) (fun y2 => ?_)
    refine g_goto C 104 dX9_text_136 (by decide) ?_
    refine g_sub [1, 2, 0] rfl ?_
    exact hk104 a0 x3 y2 h0 m1
theorem s_X9_text_L104 {K : KT}  (C : Cx K cX9_text RX9 5 158) (Rr : Rx K (some .int))    : ∀ (n : Nat) (a0 : Nat) (x3 : Int32) (x4 : Int32) (h0 : tg a0 = 9) (m0 : Mem), G K 104 [(0, .ref (kf K a0)), (3, .int x3), (4, .int x4)] [] m0 (X9_text_L104 n a0 x3 x4 m0) := by
  intro n
  induction n with
  | zero => intros; exact g_none
  | succ n ih =>
    intro a0 x3 x4 h0 m0
    exact s_X9_text_L104B C Rr  ih a0 x3 x4 h0 m0
set_option maxHeartbeats 2000000 in
theorem s_X9_text_J61 {K : KT}  (C : Cx K cX9_text RX9 5 158) (Rr : Rx K (some .int))    (a0 : Nat) (x1 : Int32) (xs0 : Int32) (h0 : tg a0 = 9) (m0 : Mem) : G K 61 [(0, .ref (kf K a0)), (1, .int x1)] [.int xs0] m0 (X9_text_J61 a0 x1 xs0 m0) := by
  unfold X9_text_J61
  refine g_istore_n C dX9_text_61 rfl (by decide) rfl ?_
  refine g_aload_n C dX9_text_62 1 rfl rfl ?_
  refine g_getr C 0 1 Fx9 h0 (by decide) rfl rfl q_919 dX9_text_63 ?_
  refine g_bipush C (6 : Int32) dX9_text_66 rfl ?_
  refine g_iconst C (0 : Int32) dX9_text_68 rfl ?_
  refine g_iast (n := 516) C (cl_9_0 h0) dX9_text_69 (fun m1 => ?_)
  refine g_iload_n C dX9_text_70 0 rfl rfl ?_
  refine g_if_ne C 82 dX9_text_71 (by decide) (fun _ => ?_) (fun _ => ?_)
  · refine g_sipush C (182 : Int32) dX9_text_82 rfl ?_
    refine g_bipush C (125 : Int32) dX9_text_85 rfl ?_
    refine g_iload_n C dX9_text_87 2 rfl rfl ?_
    refine g_imul C dX9_text_88 ?_
    refine g_iadd C dX9_text_89 ?_
    refine g_bnd (fun y2 => ?_)
    refine g_istore_n C dX9_text_90 rfl (by decide) rfl ?_
    refine g_aload_n C dX9_text_91 2 rfl rfl ?_
    refine g_getr C 0 1 Fx9 h0 (by decide) rfl rfl q_919 dX9_text_92 ?_
    refine g_iload_n C dX9_text_95 0 rfl rfl ?_
    refine g_aload_n C dX9_text_96 2 rfl rfl ?_
    refine g_geti C 7 Fx9 h0 (by decide) rfl rfl q_926 dX9_text_97 ?_
    refine g_iast (n := 516) C (cl_9_0 h0) dX9_text_100 (fun m3 => ?_)
    refine g_iconst C (0 : Int32) dX9_text_101 rfl ?_
    refine g_istore C dX9_text_102 (by decide) rfl ?_
    refine g_sub [3, 1, 0] rfl ?_
    exact s_X9_text_L104 C Rr FU a0 y2 (0 : Int32) h0 m3
  · refine g_bipush C (-10 : Int32) dX9_text_74 rfl ?_
    refine g_aload_n C dX9_text_76 1 rfl rfl ?_
    refine g_geti C 5 Fx9 h0 (by decide) rfl rfl q_924 dX9_text_77 ?_
    refine g_isub C dX9_text_80 ?_
    exact g_iret C Rr dX9_text_81
set_option maxHeartbeats 2000000 in
theorem s_X9_text_J60 {K : KT}  (C : Cx K cX9_text RX9 5 158) (Rr : Rx K (some .int))    (a0 : Nat) (x1 : Int32) (h0 : tg a0 = 9) (m0 : Mem) : G K 60 [(0, .ref (kf K a0)), (1, .int x1)] [] m0 (X9_text_J60 a0 x1 m0) := by
  unfold X9_text_J60
  refine g_iconst C (0 : Int32) dX9_text_60 rfl ?_
  refine g_sub [0, 1] rfl ?_
  exact s_X9_text_J61 C Rr a0 x1 (0 : Int32) h0 m0
set_option maxHeartbeats 2000000 in
theorem s_X9_text {K : KT}  (C : Cx K cX9_text RX9 5 158) (Rr : Rx K (some .int))  (a0 : Nat) (x1 : Int32) (h0 : tg a0 = 9) (m0 : Mem) : G K 0 [(0, .ref (kf K a0)), (1, .int x1)] [] m0 (f_X9_text a0 x1 m0) := by
  unfold f_X9_text
  refine g_iload_n C dX9_text_0 1 rfl rfl ?_
  refine g_iconst C (0 : Int32) dX9_text_1 rfl ?_
  refine g_iconst C (1 : Int32) dX9_text_2 rfl ?_
  refine g_callSi C cv_X9_in q_988 (ct_X9_in x1 (0 : Int32) (1 : Int32)  m0) q_987 (by decide) rfl rfl (Nat.le_of_ble_eq_true rfl) dX9_text_3 (fun r1 m2 => ?_)
  refine g_if_ne C 15 dX9_text_6 (by decide) (fun _ => ?_) (fun _ => ?_)
  · refine g_aload_n C dX9_text_15 0 rfl rfl ?_
    refine g_iload_n C dX9_text_16 1 rfl rfl ?_
    refine g_puti C 8 Fx9 h0 (by decide) rfl rfl rfl rfl q_927 dX9_text_17 (fun m3 => ?_)
    refine g_aload_n C dX9_text_20 0 rfl rfl ?_
    refine g_iconst C (0 : Int32) dX9_text_21 rfl ?_
    refine g_puti C 5 Fx9 h0 (by decide) rfl rfl rfl rfl q_924 dX9_text_22 (fun m4 => ?_)
    refine g_aload_n C dX9_text_25 0 rfl rfl ?_
    refine g_iconst C (0 : Int32) dX9_text_26 rfl ?_
    refine g_puti C 6 Fx9 h0 (by decide) rfl rfl rfl rfl q_925 dX9_text_27 (fun m5 => ?_)
    refine g_aload_n C dX9_text_30 0 rfl rfl ?_
    refine g_iconst C (0 : Int32) dX9_text_31 rfl ?_
    refine g_puti C 7 Fx9 h0 (by decide) rfl rfl rfl rfl q_926 dX9_text_32 (fun m6 => ?_)
    refine g_aload_n C dX9_text_35 0 rfl rfl ?_
    refine g_callVi C cv_X9_whole (ct_X9_whole (fun a0 h0 m0 => ct_X9_one RF a0 h0 m0) (by decide) a0 h0 m6) q_1086 h0 (by decide) rfl rfl (Nat.le_of_ble_eq_true rfl) dX9_text_36 (fun r7 m8 => ?_)
    refine g_if_eq C 60 dX9_text_39 (by decide) (fun _ => ?_) (fun _ => ?_)
    · refine g_sub [0, 1] rfl ?_
      exact s_X9_text_J60 C Rr a0 x1 h0 m8
    · refine g_aload_n C dX9_text_42 0 rfl rfl ?_
      refine g_geti C 5 Fx9 h0 (by decide) rfl rfl q_924 dX9_text_43 ?_
      refine g_aload_n C dX9_text_46 0 rfl rfl ?_
      refine g_getr C 0 1 Fx9 h0 (by decide) rfl rfl q_919 dX9_text_47 ?_
      refine g_bipush C (6 : Int32) dX9_text_50 rfl ?_
      refine g_iald (n := 516) C (cl_9_0 h0) dX9_text_52 (fun _ => ?_)
      refine g_icmp_ne C 60 dX9_text_53 (by decide) (fun _ => ?_) (fun _ => ?_)
      · refine g_sub [0, 1] rfl ?_
        exact s_X9_text_J60 C Rr a0 x1 h0 m8
      · refine g_iconst C (1 : Int32) dX9_text_56 rfl ?_
        refine g_goto C 61 dX9_text_57 (by decide) ?_
        refine g_sub [0, 1] rfl ?_
        exact s_X9_text_J61 C Rr a0 x1 (1 : Int32) h0 m8
  · refine g_aload_n C dX9_text_9 0 rfl rfl ?_
    refine g_iconst C (1 : Int32) dX9_text_10 rfl ?_
    refine g_callVi C cv_X9_error (ct_X9_error a0 (1 : Int32) h0 m2) q_990 h0 (by decide) rfl rfl (Nat.le_of_ble_eq_true rfl) dX9_text_11 (fun r9 m10 => ?_)
    exact g_iret C Rr dX9_text_14
theorem ct_X9_text {Ω : OT} (a0 : Nat) (x1 : Int32) (h0 : tg a0 = 9) (m0 : Mem) : Ct Ω yX9_text cX9_text 5 (some .int) 158 [.ref (oF Ω a0), .int x1] m0 (f_X9_text a0 x1 m0) := by
  refine Ct_of (by decide) (Nat.le_of_ble_eq_true rfl) ?_
  intro K hK C Rr
  subst hK
  exact s_X9_text C Rr  a0 x1 h0 m0
def X9_untell_J28   (a0 : Nat) (x1 : Int32) (xs0 : Int32) (m0 : Mem) : Res :=
  gd (inb ((182 : Int32) + ((125 : Int32) * x1)) 516) (bnd (mset m0 (a0 + 1) ((182 : Int32) + ((125 : Int32) * x1)).toNatClampNeg (0 : Int32)) (fun m1 =>
  some (xs0, m1)))
def f_X9_untell  (a0 : Nat) (x1 : Int32) (m0 : Mem) : Res :=
  cal (f_X9_in x1 (0 : Int32) (1 : Int32) m0) (fun r1 m2 =>
  (if r1 = 0 then
  cal (f_X9_error a0 (1 : Int32) m2) (fun r5 m6 =>
  some (r5, m6))
  else
  cal (f_X9_hasText a0 x1 m2) (fun r3 m4 =>
  (if r3 = 0 then
  X9_untell_J28 a0 x1 (0 : Int32) m4
  else
  X9_untell_J28 a0 x1 (1 : Int32) m4))))
set_option maxHeartbeats 2000000 in
theorem s_X9_untell_J28 {K : KT}  (C : Cx K cX9_untell RX9 3 2) (Rr : Rx K (some .int))    (a0 : Nat) (x1 : Int32) (xs0 : Int32) (h0 : tg a0 = 9) (m0 : Mem) : G K 28 [(0, .ref (kf K a0)), (1, .int x1)] [.int xs0] m0 (X9_untell_J28 a0 x1 xs0 m0) := by
  unfold X9_untell_J28
  refine g_istore_n C dX9_untell_28 rfl (by decide) rfl ?_
  refine g_aload_n C dX9_untell_29 1 rfl rfl ?_
  refine g_getr C 0 1 Fx9 h0 (by decide) rfl rfl q_919 dX9_untell_30 ?_
  refine g_sipush C (182 : Int32) dX9_untell_33 rfl ?_
  refine g_bipush C (125 : Int32) dX9_untell_36 rfl ?_
  refine g_iload_n C dX9_untell_38 2 rfl rfl ?_
  refine g_imul C dX9_untell_39 ?_
  refine g_iadd C dX9_untell_40 ?_
  refine g_iconst C (0 : Int32) dX9_untell_41 rfl ?_
  refine g_iast (n := 516) C (cl_9_0 h0) dX9_untell_42 (fun m1 => ?_)
  refine g_iload_n C dX9_untell_43 0 rfl rfl ?_
  exact g_iret C Rr dX9_untell_44
set_option maxHeartbeats 2000000 in
theorem s_X9_untell {K : KT}  (C : Cx K cX9_untell RX9 3 2) (Rr : Rx K (some .int))  (a0 : Nat) (x1 : Int32) (h0 : tg a0 = 9) (m0 : Mem) : G K 0 [(0, .ref (kf K a0)), (1, .int x1)] [] m0 (f_X9_untell a0 x1 m0) := by
  unfold f_X9_untell
  refine g_iload_n C dX9_untell_0 1 rfl rfl ?_
  refine g_iconst C (0 : Int32) dX9_untell_1 rfl ?_
  refine g_iconst C (1 : Int32) dX9_untell_2 rfl ?_
  refine g_callSi C cv_X9_in q_988 (ct_X9_in x1 (0 : Int32) (1 : Int32)  m0) q_987 (by decide) rfl rfl (Nat.le_of_ble_eq_true rfl) dX9_untell_3 (fun r1 m2 => ?_)
  refine g_if_ne C 15 dX9_untell_6 (by decide) (fun _ => ?_) (fun _ => ?_)
  · refine g_aload_n C dX9_untell_15 0 rfl rfl ?_
    refine g_iload_n C dX9_untell_16 1 rfl rfl ?_
    refine g_callVi C cv_X9_hasText (ct_X9_hasText a0 x1 h0 m2) q_1130 h0 (by decide) rfl rfl (Nat.le_of_ble_eq_true rfl) dX9_untell_17 (fun r3 m4 => ?_)
    refine g_if_eq C 27 dX9_untell_20 (by decide) (fun _ => ?_) (fun _ => ?_)
    · refine g_iconst C (0 : Int32) dX9_untell_27 rfl ?_
      refine g_sub [0, 1] rfl ?_
      exact s_X9_untell_J28 C Rr a0 x1 (0 : Int32) h0 m4
    · refine g_iconst C (1 : Int32) dX9_untell_23 rfl ?_
      refine g_goto C 28 dX9_untell_24 (by decide) ?_
      refine g_sub [0, 1] rfl ?_
      exact s_X9_untell_J28 C Rr a0 x1 (1 : Int32) h0 m4
  · refine g_aload_n C dX9_untell_9 0 rfl rfl ?_
    refine g_iconst C (1 : Int32) dX9_untell_10 rfl ?_
    refine g_callVi C cv_X9_error (ct_X9_error a0 (1 : Int32) h0 m2) q_990 h0 (by decide) rfl rfl (Nat.le_of_ble_eq_true rfl) dX9_untell_11 (fun r5 m6 => ?_)
    exact g_iret C Rr dX9_untell_14
theorem ct_X9_untell {Ω : OT} (a0 : Nat) (x1 : Int32) (h0 : tg a0 = 9) (m0 : Mem) : Ct Ω yX9_untell cX9_untell 3 (some .int) 2 [.ref (oF Ω a0), .int x1] m0 (f_X9_untell a0 x1 m0) := by
  refine Ct_of (by decide) (Nat.le_of_ble_eq_true rfl) ?_
  intro K hK C Rr
  subst hK
  exact s_X9_untell C Rr  a0 x1 h0 m0
def X9_joined_J170   (xs0 : Int32) (m0 : Mem) : Res :=
  some (xs0, m0)
def X9_joined_J163    (m0 : Mem) : Res :=
  X9_joined_J170 (0 : Int32) m0
def X9_joined_J217   (xs0 : Int32) (m0 : Mem) : Res :=
  some (xs0, m0)
def X9_joined_J216    (m0 : Mem) : Res :=
  X9_joined_J217 (0 : Int32) m0
def X9_joined_J231   (xs0 : Int32) (m0 : Mem) : Res :=
  some (xs0, m0)
def X9_joined_J226    (m0 : Mem) : Res :=
  X9_joined_J231 (1 : Int32) m0
def X9_joined_J218   (x1 : Int32) (x2 : Int32) (m0 : Mem) : Res :=
  (if x1 = 0 then
  (if x2 = 0 then
  X9_joined_J231 (0 : Int32) m0
  else
  X9_joined_J226 m0)
  else
  X9_joined_J226 m0)
def X9_joined_J153   (xs0 : Int32) (m0 : Mem) : Res :=
  some (xs0, m0)
def X9_joined_J181   (xs0 : Int32) (m0 : Mem) : Res :=
  some (xs0, m0)
def X9_joined_J203   (xs0 : Int32) (m0 : Mem) : Res :=
  some (xs0, m0)
def X9_joined_J192   (xs0 : Int32) (m0 : Mem) : Res :=
  some (xs0, m0)
def f_X9_joined  (x0 : Int32) (x1 : Int32) (x2 : Int32) (m0 : Mem) : Res :=
  (if x0 = (37 : Int32) then
  (if x2 = 0 then
  X9_joined_J163 m0
  else
  (if x2 = (-1 : Int32) then
  X9_joined_J163 m0
  else
  gd (!(x2 == 0)) (
  X9_joined_J170 (irm x1 x2) m0)))
  else
  if x0 = (38 : Int32) then
  (if x1 = 0 then
  X9_joined_J216 m0
  else
  (if x2 = 0 then
  X9_joined_J216 m0
  else
  X9_joined_J217 (1 : Int32) m0))
  else
  if x0 = (39 : Int32) then
  X9_joined_J218 x1 x2 m0
  else
  if x0 = (40 : Int32) then
  X9_joined_J218 x1 x2 m0
  else
  if x0 = (41 : Int32) then
  X9_joined_J218 x1 x2 m0
  else
  if x0 = (42 : Int32) then
  some (x1 * x2, m0)
  else
  if x0 = (43 : Int32) then
  some (x1 + x2, m0)
  else
  if x0 = (44 : Int32) then
  X9_joined_J218 x1 x2 m0
  else
  if x0 = (45 : Int32) then
  some (x1 - x2, m0)
  else
  if x0 = (46 : Int32) then
  X9_joined_J218 x1 x2 m0
  else
  if x0 = (47 : Int32) then
  (if x2 = 0 then
  X9_joined_J153 (0 : Int32) m0
  else
  (if x2 = (-1 : Int32) then
  X9_joined_J153 (-x1) m0
  else
  gd (!(x2 == 0)) (
  X9_joined_J153 (x1 / x2) m0)))
  else
  if x0 = (48 : Int32) then
  X9_joined_J218 x1 x2 m0
  else
  if x0 = (49 : Int32) then
  X9_joined_J218 x1 x2 m0
  else
  if x0 = (50 : Int32) then
  X9_joined_J218 x1 x2 m0
  else
  if x0 = (51 : Int32) then
  X9_joined_J218 x1 x2 m0
  else
  if x0 = (52 : Int32) then
  X9_joined_J218 x1 x2 m0
  else
  if x0 = (53 : Int32) then
  X9_joined_J218 x1 x2 m0
  else
  if x0 = (54 : Int32) then
  X9_joined_J218 x1 x2 m0
  else
  if x0 = (55 : Int32) then
  X9_joined_J218 x1 x2 m0
  else
  if x0 = (56 : Int32) then
  X9_joined_J218 x1 x2 m0
  else
  if x0 = (57 : Int32) then
  X9_joined_J218 x1 x2 m0
  else
  if x0 = (58 : Int32) then
  X9_joined_J218 x1 x2 m0
  else
  if x0 = (59 : Int32) then
  X9_joined_J218 x1 x2 m0
  else
  if x0 = (60 : Int32) then
  (if x2 ≤ x1 then
  X9_joined_J181 (0 : Int32) m0
  else
  X9_joined_J181 (1 : Int32) m0)
  else
  if x0 = (61 : Int32) then
  (if x1 = x2 then
  X9_joined_J203 (1 : Int32) m0
  else
  X9_joined_J203 (0 : Int32) m0)
  else
  if x0 = (62 : Int32) then
  (if x1 ≤ x2 then
  X9_joined_J192 (0 : Int32) m0
  else
  X9_joined_J192 (1 : Int32) m0)
  else
  X9_joined_J218 x1 x2 m0)
set_option maxHeartbeats 2000000 in
theorem s_X9_joined_J170 {K : KT}  (C : Cx K cX9_joined RX9 3 1) (Rr : Rx K (some .int))    (xs0 : Int32)  (m0 : Mem) : G K 170 [] [.int xs0] m0 (X9_joined_J170 xs0 m0) := by
  unfold X9_joined_J170
  exact g_iret C Rr dX9_joined_170
set_option maxHeartbeats 2000000 in
theorem s_X9_joined_J163 {K : KT}  (C : Cx K cX9_joined RX9 3 1) (Rr : Rx K (some .int))      (m0 : Mem) : G K 163 [] [] m0 (X9_joined_J163 m0) := by
  unfold X9_joined_J163
  refine g_iconst C (0 : Int32) dX9_joined_163 rfl ?_
  refine g_goto C 170 dX9_joined_164 (by decide) ?_
  refine g_sub [] rfl ?_
  exact s_X9_joined_J170 C Rr (0 : Int32) m0
set_option maxHeartbeats 2000000 in
theorem s_X9_joined_J217 {K : KT}  (C : Cx K cX9_joined RX9 3 1) (Rr : Rx K (some .int))    (xs0 : Int32)  (m0 : Mem) : G K 217 [] [.int xs0] m0 (X9_joined_J217 xs0 m0) := by
  unfold X9_joined_J217
  exact g_iret C Rr dX9_joined_217
set_option maxHeartbeats 2000000 in
theorem s_X9_joined_J216 {K : KT}  (C : Cx K cX9_joined RX9 3 1) (Rr : Rx K (some .int))      (m0 : Mem) : G K 216 [] [] m0 (X9_joined_J216 m0) := by
  unfold X9_joined_J216
  refine g_iconst C (0 : Int32) dX9_joined_216 rfl ?_
  refine g_sub [] rfl ?_
  exact s_X9_joined_J217 C Rr (0 : Int32) m0
set_option maxHeartbeats 2000000 in
theorem s_X9_joined_J231 {K : KT}  (C : Cx K cX9_joined RX9 3 1) (Rr : Rx K (some .int))    (xs0 : Int32)  (m0 : Mem) : G K 231 [] [.int xs0] m0 (X9_joined_J231 xs0 m0) := by
  unfold X9_joined_J231
  exact g_iret C Rr dX9_joined_231
set_option maxHeartbeats 2000000 in
theorem s_X9_joined_J226 {K : KT}  (C : Cx K cX9_joined RX9 3 1) (Rr : Rx K (some .int))      (m0 : Mem) : G K 226 [] [] m0 (X9_joined_J226 m0) := by
  unfold X9_joined_J226
  refine g_iconst C (1 : Int32) dX9_joined_226 rfl ?_
  refine g_goto C 231 dX9_joined_227 (by decide) ?_
  refine g_sub [] rfl ?_
  exact s_X9_joined_J231 C Rr (1 : Int32) m0
set_option maxHeartbeats 2000000 in
theorem s_X9_joined_J218 {K : KT}  (C : Cx K cX9_joined RX9 3 1) (Rr : Rx K (some .int))    (x1 : Int32) (x2 : Int32)  (m0 : Mem) : G K 218 [(1, .int x1), (2, .int x2)] [] m0 (X9_joined_J218 x1 x2 m0) := by
  unfold X9_joined_J218
  refine g_iload_n C dX9_joined_218 0 rfl rfl ?_
  refine g_if_ne C 226 dX9_joined_219 (by decide) (fun _ => ?_) (fun _ => ?_)
  · refine g_sub [] rfl ?_
    exact s_X9_joined_J226 C Rr m0
  · refine g_iload_n C dX9_joined_222 1 rfl rfl ?_
    refine g_if_eq C 230 dX9_joined_223 (by decide) (fun _ => ?_) (fun _ => ?_)
    · refine g_iconst C (0 : Int32) dX9_joined_230 rfl ?_
      refine g_sub [] rfl ?_
      exact s_X9_joined_J231 C Rr (0 : Int32) m0
    · refine g_sub [] rfl ?_
      exact s_X9_joined_J226 C Rr m0
set_option maxHeartbeats 2000000 in
theorem s_X9_joined_J153 {K : KT}  (C : Cx K cX9_joined RX9 3 1) (Rr : Rx K (some .int))    (xs0 : Int32)  (m0 : Mem) : G K 153 [] [.int xs0] m0 (X9_joined_J153 xs0 m0) := by
  unfold X9_joined_J153
  exact g_iret C Rr dX9_joined_153
set_option maxHeartbeats 2000000 in
theorem s_X9_joined_J181 {K : KT}  (C : Cx K cX9_joined RX9 3 1) (Rr : Rx K (some .int))    (xs0 : Int32)  (m0 : Mem) : G K 181 [] [.int xs0] m0 (X9_joined_J181 xs0 m0) := by
  unfold X9_joined_J181
  exact g_iret C Rr dX9_joined_181
set_option maxHeartbeats 2000000 in
theorem s_X9_joined_J203 {K : KT}  (C : Cx K cX9_joined RX9 3 1) (Rr : Rx K (some .int))    (xs0 : Int32)  (m0 : Mem) : G K 203 [] [.int xs0] m0 (X9_joined_J203 xs0 m0) := by
  unfold X9_joined_J203
  exact g_iret C Rr dX9_joined_203
set_option maxHeartbeats 2000000 in
theorem s_X9_joined_J192 {K : KT}  (C : Cx K cX9_joined RX9 3 1) (Rr : Rx K (some .int))    (xs0 : Int32)  (m0 : Mem) : G K 192 [] [.int xs0] m0 (X9_joined_J192 xs0 m0) := by
  unfold X9_joined_J192
  exact g_iret C Rr dX9_joined_192
set_option maxHeartbeats 2000000 in
theorem s_X9_joined {K : KT}  (C : Cx K cX9_joined RX9 3 1) (Rr : Rx K (some .int))  (x0 : Int32) (x1 : Int32) (x2 : Int32)  (m0 : Mem) : G K 0 [(0, .int x0), (1, .int x1), (2, .int x2)] [] m0 (f_X9_joined x0 x1 x2 m0) := by
  unfold f_X9_joined
  refine g_iload_n C dX9_joined_0 0 rfl rfl ?_
  refine g_tsw C 154 dX9_joined_1 (by decide) rfl (by decide) ?_ (fun e1 => ?_)
  · refine g_iload_n C dX9_joined_154 2 rfl rfl ?_
    refine g_if_eq C 163 dX9_joined_155 (by decide) (fun _ => ?_) (fun _ => ?_)
    · refine g_sub [] rfl ?_
      exact s_X9_joined_J163 C Rr m0
    · refine g_iload_n C dX9_joined_158 2 rfl rfl ?_
      refine g_iconst C (-1 : Int32) dX9_joined_159 rfl ?_
      refine g_icmp_ne C 167 dX9_joined_160 (by decide) (fun _ => ?_) (fun _ => ?_)
      · refine g_iload_n C dX9_joined_167 1 rfl rfl ?_
        refine g_iload_n C dX9_joined_168 2 rfl rfl ?_
        refine g_irem C dX9_joined_169 (fun _ => ?_)
        refine g_sub [] rfl ?_
        exact s_X9_joined_J170 C Rr (irm x1 x2) m0
      · refine g_sub [] rfl ?_
        exact s_X9_joined_J163 C Rr m0
  refine g_tsw C 204 dX9_joined_1 (by decide) rfl (by decide) ?_ (fun e2 => ?_)
  · refine g_iload_n C dX9_joined_204 1 rfl rfl ?_
    refine g_if_eq C 216 dX9_joined_205 (by decide) (fun _ => ?_) (fun _ => ?_)
    · refine g_sub [] rfl ?_
      exact s_X9_joined_J216 C Rr m0
    · refine g_iload_n C dX9_joined_208 2 rfl rfl ?_
      refine g_if_eq C 216 dX9_joined_209 (by decide) (fun _ => ?_) (fun _ => ?_)
      · refine g_sub [] rfl ?_
        exact s_X9_joined_J216 C Rr m0
      · refine g_iconst C (1 : Int32) dX9_joined_212 rfl ?_
        refine g_goto C 217 dX9_joined_213 (by decide) ?_
        refine g_sub [] rfl ?_
        exact s_X9_joined_J217 C Rr (1 : Int32) m0
  refine g_tsw C 218 dX9_joined_1 (by decide) rfl (by decide) ?_ (fun e3 => ?_)
  · refine g_sub [1, 2] rfl ?_
    exact s_X9_joined_J218 C Rr x1 x2 m0
  refine g_tsw C 218 dX9_joined_1 (by decide) rfl (by decide) ?_ (fun e4 => ?_)
  · refine g_sub [1, 2] rfl ?_
    exact s_X9_joined_J218 C Rr x1 x2 m0
  refine g_tsw C 218 dX9_joined_1 (by decide) rfl (by decide) ?_ (fun e5 => ?_)
  · refine g_sub [1, 2] rfl ?_
    exact s_X9_joined_J218 C Rr x1 x2 m0
  refine g_tsw C 128 dX9_joined_1 (by decide) rfl (by decide) ?_ (fun e6 => ?_)
  · refine g_iload_n C dX9_joined_128 1 rfl rfl ?_
    refine g_iload_n C dX9_joined_129 2 rfl rfl ?_
    refine g_imul C dX9_joined_130 ?_
    exact g_iret C Rr dX9_joined_131
  refine g_tsw C 120 dX9_joined_1 (by decide) rfl (by decide) ?_ (fun e7 => ?_)
  · refine g_iload_n C dX9_joined_120 1 rfl rfl ?_
    refine g_iload_n C dX9_joined_121 2 rfl rfl ?_
    refine g_iadd C dX9_joined_122 ?_
    exact g_iret C Rr dX9_joined_123
  refine g_tsw C 218 dX9_joined_1 (by decide) rfl (by decide) ?_ (fun e8 => ?_)
  · refine g_sub [1, 2] rfl ?_
    exact s_X9_joined_J218 C Rr x1 x2 m0
  refine g_tsw C 124 dX9_joined_1 (by decide) rfl (by decide) ?_ (fun e9 => ?_)
  · refine g_iload_n C dX9_joined_124 1 rfl rfl ?_
    refine g_iload_n C dX9_joined_125 2 rfl rfl ?_
    refine g_isub C dX9_joined_126 ?_
    exact g_iret C Rr dX9_joined_127
  refine g_tsw C 218 dX9_joined_1 (by decide) rfl (by decide) ?_ (fun e10 => ?_)
  · refine g_sub [1, 2] rfl ?_
    exact s_X9_joined_J218 C Rr x1 x2 m0
  refine g_tsw C 132 dX9_joined_1 (by decide) rfl (by decide) ?_ (fun e11 => ?_)
  · refine g_iload_n C dX9_joined_132 2 rfl rfl ?_
    refine g_if_ne C 140 dX9_joined_133 (by decide) (fun _ => ?_) (fun _ => ?_)
    · refine g_iload_n C dX9_joined_140 2 rfl rfl ?_
      refine g_iconst C (-1 : Int32) dX9_joined_141 rfl ?_
      refine g_icmp_ne C 150 dX9_joined_142 (by decide) (fun _ => ?_) (fun _ => ?_)
      · refine g_iload_n C dX9_joined_150 1 rfl rfl ?_
        refine g_iload_n C dX9_joined_151 2 rfl rfl ?_
        refine g_idiv C dX9_joined_152 (fun _ => ?_)
        refine g_sub [] rfl ?_
        exact s_X9_joined_J153 C Rr (x1 / x2) m0
      · refine g_iload_n C dX9_joined_145 1 rfl rfl ?_
        refine g_ineg C dX9_joined_146 ?_
        refine g_goto C 153 dX9_joined_147 (by decide) ?_
        refine g_sub [] rfl ?_
        exact s_X9_joined_J153 C Rr (-x1) m0
    · refine g_iconst C (0 : Int32) dX9_joined_136 rfl ?_
      refine g_goto C 153 dX9_joined_137 (by decide) ?_
      refine g_sub [] rfl ?_
      exact s_X9_joined_J153 C Rr (0 : Int32) m0
  refine g_tsw C 218 dX9_joined_1 (by decide) rfl (by decide) ?_ (fun e12 => ?_)
  · refine g_sub [1, 2] rfl ?_
    exact s_X9_joined_J218 C Rr x1 x2 m0
  refine g_tsw C 218 dX9_joined_1 (by decide) rfl (by decide) ?_ (fun e13 => ?_)
  · refine g_sub [1, 2] rfl ?_
    exact s_X9_joined_J218 C Rr x1 x2 m0
  refine g_tsw C 218 dX9_joined_1 (by decide) rfl (by decide) ?_ (fun e14 => ?_)
  · refine g_sub [1, 2] rfl ?_
    exact s_X9_joined_J218 C Rr x1 x2 m0
  refine g_tsw C 218 dX9_joined_1 (by decide) rfl (by decide) ?_ (fun e15 => ?_)
  · refine g_sub [1, 2] rfl ?_
    exact s_X9_joined_J218 C Rr x1 x2 m0
  refine g_tsw C 218 dX9_joined_1 (by decide) rfl (by decide) ?_ (fun e16 => ?_)
  · refine g_sub [1, 2] rfl ?_
    exact s_X9_joined_J218 C Rr x1 x2 m0
  refine g_tsw C 218 dX9_joined_1 (by decide) rfl (by decide) ?_ (fun e17 => ?_)
  · refine g_sub [1, 2] rfl ?_
    exact s_X9_joined_J218 C Rr x1 x2 m0
  refine g_tsw C 218 dX9_joined_1 (by decide) rfl (by decide) ?_ (fun e18 => ?_)
  · refine g_sub [1, 2] rfl ?_
    exact s_X9_joined_J218 C Rr x1 x2 m0
  refine g_tsw C 218 dX9_joined_1 (by decide) rfl (by decide) ?_ (fun e19 => ?_)
  · refine g_sub [1, 2] rfl ?_
    exact s_X9_joined_J218 C Rr x1 x2 m0
  refine g_tsw C 218 dX9_joined_1 (by decide) rfl (by decide) ?_ (fun e20 => ?_)
  · refine g_sub [1, 2] rfl ?_
    exact s_X9_joined_J218 C Rr x1 x2 m0
  refine g_tsw C 218 dX9_joined_1 (by decide) rfl (by decide) ?_ (fun e21 => ?_)
  · refine g_sub [1, 2] rfl ?_
    exact s_X9_joined_J218 C Rr x1 x2 m0
  refine g_tsw C 218 dX9_joined_1 (by decide) rfl (by decide) ?_ (fun e22 => ?_)
  · refine g_sub [1, 2] rfl ?_
    exact s_X9_joined_J218 C Rr x1 x2 m0
  refine g_tsw C 218 dX9_joined_1 (by decide) rfl (by decide) ?_ (fun e23 => ?_)
  · refine g_sub [1, 2] rfl ?_
    exact s_X9_joined_J218 C Rr x1 x2 m0
  refine g_tsw C 171 dX9_joined_1 (by decide) rfl (by decide) ?_ (fun e24 => ?_)
  · refine g_iload_n C dX9_joined_171 1 rfl rfl ?_
    refine g_iload_n C dX9_joined_172 2 rfl rfl ?_
    refine g_icmp_ge C 180 dX9_joined_173 (by decide) (fun _ => ?_) (fun _ => ?_)
    · refine g_iconst C (0 : Int32) dX9_joined_180 rfl ?_
      refine g_sub [] rfl ?_
      exact s_X9_joined_J181 C Rr (0 : Int32) m0
    · refine g_iconst C (1 : Int32) dX9_joined_176 rfl ?_
      refine g_goto C 181 dX9_joined_177 (by decide) ?_
      refine g_sub [] rfl ?_
      exact s_X9_joined_J181 C Rr (1 : Int32) m0
  refine g_tsw C 193 dX9_joined_1 (by decide) rfl (by decide) ?_ (fun e25 => ?_)
  · refine g_iload_n C dX9_joined_193 1 rfl rfl ?_
    refine g_iload_n C dX9_joined_194 2 rfl rfl ?_
    refine g_icmp_ne C 202 dX9_joined_195 (by decide) (fun _ => ?_) (fun _ => ?_)
    · refine g_iconst C (0 : Int32) dX9_joined_202 rfl ?_
      refine g_sub [] rfl ?_
      exact s_X9_joined_J203 C Rr (0 : Int32) m0
    · refine g_iconst C (1 : Int32) dX9_joined_198 rfl ?_
      refine g_goto C 203 dX9_joined_199 (by decide) ?_
      refine g_sub [] rfl ?_
      exact s_X9_joined_J203 C Rr (1 : Int32) m0
  refine g_tsw C 182 dX9_joined_1 (by decide) rfl (by decide) ?_ (fun e26 => ?_)
  · refine g_iload_n C dX9_joined_182 1 rfl rfl ?_
    refine g_iload_n C dX9_joined_183 2 rfl rfl ?_
    refine g_icmp_le C 191 dX9_joined_184 (by decide) (fun _ => ?_) (fun _ => ?_)
    · refine g_iconst C (0 : Int32) dX9_joined_191 rfl ?_
      refine g_sub [] rfl ?_
      exact s_X9_joined_J192 C Rr (0 : Int32) m0
    · refine g_iconst C (1 : Int32) dX9_joined_187 rfl ?_
      refine g_goto C 192 dX9_joined_188 (by decide) ?_
      refine g_sub [] rfl ?_
      exact s_X9_joined_J192 C Rr (1 : Int32) m0
  refine g_tswd C 218 dX9_joined_1 (sw_out [(37 : Int32), (38 : Int32), (39 : Int32), (40 : Int32), (41 : Int32), (42 : Int32), (43 : Int32), (44 : Int32), (45 : Int32), (46 : Int32), (47 : Int32), (48 : Int32), (49 : Int32), (50 : Int32), (51 : Int32), (52 : Int32), (53 : Int32), (54 : Int32), (55 : Int32), (56 : Int32), (57 : Int32), (58 : Int32), (59 : Int32), (60 : Int32), (61 : Int32), (62 : Int32)] (by intro v hv; simp only [List.mem_cons, List.not_mem_nil, or_false] at hv; rcases hv with rfl | rfl | rfl | rfl | rfl | rfl | rfl | rfl | rfl | rfl | rfl | rfl | rfl | rfl | rfl | rfl | rfl | rfl | rfl | rfl | rfl | rfl | rfl | rfl | rfl | rfl <;> assumption) (fun i h1 h2 => by have hi : i = 37 ∨ i = 38 ∨ i = 39 ∨ i = 40 ∨ i = 41 ∨ i = 42 ∨ i = 43 ∨ i = 44 ∨ i = 45 ∨ i = 46 ∨ i = 47 ∨ i = 48 ∨ i = 49 ∨ i = 50 ∨ i = 51 ∨ i = 52 ∨ i = 53 ∨ i = 54 ∨ i = 55 ∨ i = 56 ∨ i = 57 ∨ i = 58 ∨ i = 59 ∨ i = 60 ∨ i = 61 ∨ i = 62 := (by omega); rcases hi with rfl | rfl | rfl | rfl | rfl | rfl | rfl | rfl | rfl | rfl | rfl | rfl | rfl | rfl | rfl | rfl | rfl | rfl | rfl | rfl | rfl | rfl | rfl | rfl | rfl | rfl <;> simp)) (by decide) ?_
  refine g_sub [1, 2] rfl ?_
  exact s_X9_joined_J218 C Rr x1 x2 m0
theorem ct_X9_joined {Ω : OT} (x0 : Int32) (x1 : Int32) (x2 : Int32)  (m0 : Mem) : Ct Ω yX9_joined cX9_joined 3 (some .int) 1 [.int x0, .int x1, .int x2] m0 (f_X9_joined x0 x1 x2 m0) := by
  refine Ct_of (by decide) (Nat.le_of_ble_eq_true rfl) ?_
  intro K hK C Rr
  subst hK
  exact s_X9_joined C Rr  x0 x1 x2 m0
def X9_worked_J158  (k14 : Nat → Int32 → Int32 → Int32 → Mem → Res) (a0 : Nat) (x2 : Int32) (x3 : Int32) (x4 : Int32) (m0 : Mem) : Res :=
  bnd (x4 + (1 : Int32)) (fun y1 =>
  k14 a0 x2 x3 y1 m0)
def X9_worked_J88  (k14 : Nat → Int32 → Int32 → Int32 → Mem → Res) (a0 : Nat) (x2 : Int32) (x3 : Int32) (x4 : Int32) (as0 : Nat) (xs1 : Int32) (xs2 : Int32) (m0 : Mem) : Res :=
  gd (inb xs1 64) (bnd (mset m0 as0 xs1.toNatClampNeg xs2) (fun m1 =>
  bnd (x3 + (1 : Int32)) (fun y2 =>
  X9_worked_J158 k14 a0 x2 y2 x4 m1)))
def X9_worked_J66  (k14 : Nat → Int32 → Int32 → Int32 → Mem → Res) (a0 : Nat) (x2 : Int32) (x3 : Int32) (x4 : Int32) (x5 : Int32) (x6 : Int32) (m0 : Mem) : Res :=
  (if x5 = 0 then
  X9_worked_J88 k14 a0 x2 x3 x4 (a0 + 7) x3 x6 m0
  else
  gd (inb x6 128) (
  X9_worked_J88 k14 a0 x2 x3 x4 (a0 + 7) x3 (m0 (a0 + 6) x6.toNatClampNeg) m0))
def X9_worked_J124  (k14 : Nat → Int32 → Int32 → Int32 → Mem → Res) (a0 : Nat) (x2 : Int32) (x3 : Int32) (x4 : Int32) (as0 : Nat) (xs1 : Int32) (xs2 : Int32) (m0 : Mem) : Res :=
  gd (inb xs1 64) (bnd (mset m0 as0 xs1.toNatClampNeg xs2) (fun m1 =>
  X9_worked_J158 k14 a0 x2 x3 x4 m1))
def X9_worked_L14B  (k14 : Nat → Int32 → Int32 → Int32 → Mem → Res) (a0 : Nat) (x2 : Int32) (x3 : Int32) (x4 : Int32) (m0 : Mem) : Res :=
  gd (inb x2 516) (
  (if (m0 (a0 + 1) x2.toNatClampNeg) ≤ x4 then
  gd (inb (0 : Int32) 64) (
  some (m0 (a0 + 7) (0 : Int32).toNatClampNeg, m0))
  else
  gd (inb ((x2 + (1 : Int32)) + ((2 : Int32) * x4)) 516) (
  bnd (m0 (a0 + 1) ((x2 + (1 : Int32)) + ((2 : Int32) * x4)).toNatClampNeg) (fun y1 =>
  gd (inb ((x2 + (2 : Int32)) + ((2 : Int32) * x4)) 516) (
  bnd (m0 (a0 + 1) ((x2 + (2 : Int32)) + ((2 : Int32) * x4)).toNatClampNeg) (fun y2 =>
  (if y1 = 0 then
  X9_worked_J66 k14 a0 x2 x3 x4 y1 y2 m0
  else
  (if y1 = (1 : Int32) then
  X9_worked_J66 k14 a0 x2 x3 x4 y1 y2 m0
  else
  (if y1 = (2 : Int32) then
  gd (inb (x3 - (1 : Int32)) 64) (
  (if (m0 (a0 + 7) (x3 - (1 : Int32)).toNatClampNeg) = 0 then
  X9_worked_J124 k14 a0 x2 x3 x4 (a0 + 7) (x3 - (1 : Int32)) (1 : Int32) m0
  else
  X9_worked_J124 k14 a0 x2 x3 x4 (a0 + 7) (x3 - (1 : Int32)) (0 : Int32) m0))
  else
  bnd (x3 + (-1 : Int32)) (fun y3 =>
  gd (inb (y3 - (1 : Int32)) 64) (
  gd (inb y3 64) (
  cal (f_X9_joined y2 (m0 (a0 + 7) (y3 - (1 : Int32)).toNatClampNeg) (m0 (a0 + 7) y3.toNatClampNeg) m0) (fun r4 m5 =>
  gd (inb (y3 - (1 : Int32)) 64) (bnd (mset m5 (a0 + 7) (y3 - (1 : Int32)).toNatClampNeg r4) (fun m6 =>
  X9_worked_J158 k14 a0 x2 y3 x4 m6)))))))))))))))
def X9_worked_L14   : Nat → Nat → Int32 → Int32 → Int32 → Mem → Res
  | 0 => fun _ _ _ _ _ => none
  | n + 1 => X9_worked_L14B (X9_worked_L14 n)
def f_X9_worked  (a0 : Nat) (x1 : Int32) (m0 : Mem) : Res :=
  bnd ((182 : Int32) + ((125 : Int32) * x1)) (fun y1 =>
  X9_worked_L14 FU a0 y1 (0 : Int32) (0 : Int32) m0)
set_option maxHeartbeats 2000000 in
theorem s_X9_worked_J158 {K : KT}  (C : Cx K cX9_worked RX9 7 2) (Rr : Rx K (some .int))  {k14 : Nat → Int32 → Int32 → Int32 → Mem → Res} (hk14 : ∀ (a0 : Nat) (x2 : Int32) (x3 : Int32) (x4 : Int32) (h0 : tg a0 = 9) (m0 : Mem), G K 14 [(0, .ref (kf K a0)), (2, .int x2), (3, .int x3), (4, .int x4)] [] m0 (k14 a0 x2 x3 x4 m0)) (a0 : Nat) (x2 : Int32) (x3 : Int32) (x4 : Int32) (h0 : tg a0 = 9) (m0 : Mem) : G K 158 [(0, .ref (kf K a0)), (2, .int x2), (3, .int x3), (4, .int x4)] [] m0 (X9_worked_J158 k14 a0 x2 x3 x4 m0) := by
  unfold X9_worked_J158
  refine g_iinc (k := 3) C dX9_worked_158 rfl (w := (1 : Int32)) rfl (by decide) (fun v_ => [(4, .int v_), (0, .ref (kf K a0)), (2, .int x2), (3, .int x3)]) (fun _ => rfl) (fun y1 => ?_)
  refine g_goto C 14 dX9_worked_161 (by decide) ?_
  refine g_sub [1, 2, 3, 0] rfl ?_
  exact hk14 a0 x2 x3 y1 h0 m0
set_option maxHeartbeats 2000000 in
theorem s_X9_worked_J88 {K : KT}  (C : Cx K cX9_worked RX9 7 2) (Rr : Rx K (some .int))  {k14 : Nat → Int32 → Int32 → Int32 → Mem → Res} (hk14 : ∀ (a0 : Nat) (x2 : Int32) (x3 : Int32) (x4 : Int32) (h0 : tg a0 = 9) (m0 : Mem), G K 14 [(0, .ref (kf K a0)), (2, .int x2), (3, .int x3), (4, .int x4)] [] m0 (k14 a0 x2 x3 x4 m0)) (a0 : Nat) (x2 : Int32) (x3 : Int32) (x4 : Int32) (as0 : Nat) (xs1 : Int32) (xs2 : Int32) (h0 : tg a0 = 9) (hs0 : tg as0 = 100 + 64) (m0 : Mem) : G K 88 [(0, .ref (kf K a0)), (2, .int x2), (3, .int x3), (4, .int x4)] [.int xs2, .int xs1, .ref (kf K as0)] m0 (X9_worked_J88 k14 a0 x2 x3 x4 as0 xs1 xs2 m0) := by
  unfold X9_worked_J88
  refine g_iast (n := 64) C hs0 dX9_worked_88 (fun m1 => ?_)
  refine g_iinc (k := 2) C dX9_worked_89 rfl (w := (1 : Int32)) rfl (by decide) (fun v_ => [(3, .int v_), (0, .ref (kf K a0)), (2, .int x2), (4, .int x4)]) (fun _ => rfl) (fun y2 => ?_)
  refine g_goto C 158 dX9_worked_92 (by decide) ?_
  refine g_sub [1, 2, 0, 3] rfl ?_
  exact s_X9_worked_J158 C Rr hk14 a0 x2 y2 x4 h0 m1
set_option maxHeartbeats 2000000 in
theorem s_X9_worked_J66 {K : KT}  (C : Cx K cX9_worked RX9 7 2) (Rr : Rx K (some .int))  {k14 : Nat → Int32 → Int32 → Int32 → Mem → Res} (hk14 : ∀ (a0 : Nat) (x2 : Int32) (x3 : Int32) (x4 : Int32) (h0 : tg a0 = 9) (m0 : Mem), G K 14 [(0, .ref (kf K a0)), (2, .int x2), (3, .int x3), (4, .int x4)] [] m0 (k14 a0 x2 x3 x4 m0)) (a0 : Nat) (x2 : Int32) (x3 : Int32) (x4 : Int32) (x5 : Int32) (x6 : Int32) (h0 : tg a0 = 9) (m0 : Mem) : G K 66 [(0, .ref (kf K a0)), (2, .int x2), (3, .int x3), (4, .int x4), (5, .int x5), (6, .int x6)] [] m0 (X9_worked_J66 k14 a0 x2 x3 x4 x5 x6 m0) := by
  unfold X9_worked_J66
  refine g_aload_n C dX9_worked_66 0 rfl rfl ?_
  refine g_getr C 11 7 Fx9 h0 (by decide) rfl rfl q_930 dX9_worked_67 ?_
  refine g_iload_n C dX9_worked_70 2 rfl rfl ?_
  refine g_iload C dX9_worked_71 4 rfl ?_
  refine g_if_ne C 81 dX9_worked_73 (by decide) (fun _ => ?_) (fun _ => ?_)
  · refine g_aload_n C dX9_worked_81 0 rfl rfl ?_
    refine g_getr C 10 6 Fx9 h0 (by decide) rfl rfl q_929 dX9_worked_82 ?_
    refine g_iload C dX9_worked_85 5 rfl ?_
    refine g_iald (n := 128) C (cl_9_10 h0) dX9_worked_87 (fun _ => ?_)
    refine g_sub [0, 1, 2, 3] rfl ?_
    exact s_X9_worked_J88 C Rr hk14 a0 x2 x3 x4 (a0 + 7) x3 (m0 (a0 + 6) x6.toNatClampNeg) h0 (cl_9_11 h0) m0
  · refine g_iload C dX9_worked_76 5 rfl ?_
    refine g_goto C 88 dX9_worked_78 (by decide) ?_
    refine g_sub [0, 1, 2, 3] rfl ?_
    exact s_X9_worked_J88 C Rr hk14 a0 x2 x3 x4 (a0 + 7) x3 x6 h0 (cl_9_11 h0) m0
set_option maxHeartbeats 2000000 in
theorem s_X9_worked_J124 {K : KT}  (C : Cx K cX9_worked RX9 7 2) (Rr : Rx K (some .int))  {k14 : Nat → Int32 → Int32 → Int32 → Mem → Res} (hk14 : ∀ (a0 : Nat) (x2 : Int32) (x3 : Int32) (x4 : Int32) (h0 : tg a0 = 9) (m0 : Mem), G K 14 [(0, .ref (kf K a0)), (2, .int x2), (3, .int x3), (4, .int x4)] [] m0 (k14 a0 x2 x3 x4 m0)) (a0 : Nat) (x2 : Int32) (x3 : Int32) (x4 : Int32) (as0 : Nat) (xs1 : Int32) (xs2 : Int32) (h0 : tg a0 = 9) (hs0 : tg as0 = 100 + 64) (m0 : Mem) : G K 124 [(0, .ref (kf K a0)), (2, .int x2), (3, .int x3), (4, .int x4)] [.int xs2, .int xs1, .ref (kf K as0)] m0 (X9_worked_J124 k14 a0 x2 x3 x4 as0 xs1 xs2 m0) := by
  unfold X9_worked_J124
  refine g_iast (n := 64) C hs0 dX9_worked_124 (fun m1 => ?_)
  refine g_goto C 158 dX9_worked_125 (by decide) ?_
  refine g_sub [0, 1, 2, 3] rfl ?_
  exact s_X9_worked_J158 C Rr hk14 a0 x2 x3 x4 h0 m1
set_option maxHeartbeats 2000000 in
theorem s_X9_worked_L14B {K : KT}  (C : Cx K cX9_worked RX9 7 2) (Rr : Rx K (some .int))  {k14 : Nat → Int32 → Int32 → Int32 → Mem → Res} (hk14 : ∀ (a0 : Nat) (x2 : Int32) (x3 : Int32) (x4 : Int32) (h0 : tg a0 = 9) (m0 : Mem), G K 14 [(0, .ref (kf K a0)), (2, .int x2), (3, .int x3), (4, .int x4)] [] m0 (k14 a0 x2 x3 x4 m0)) (a0 : Nat) (x2 : Int32) (x3 : Int32) (x4 : Int32) (h0 : tg a0 = 9) (m0 : Mem) : G K 14 [(0, .ref (kf K a0)), (2, .int x2), (3, .int x3), (4, .int x4)] [] m0 (X9_worked_L14B k14 a0 x2 x3 x4 m0) := by
  unfold X9_worked_L14B
  refine g_iload C dX9_worked_14 3 rfl ?_
  refine g_aload_n C dX9_worked_16 0 rfl rfl ?_
  refine g_getr C 0 1 Fx9 h0 (by decide) rfl rfl q_919 dX9_worked_17 ?_
  refine g_iload_n C dX9_worked_20 1 rfl rfl ?_
  refine g_iald (n := 516) C (cl_9_0 h0) dX9_worked_21 (fun _ => ?_)
  refine g_icmp_ge C 164 dX9_worked_22 (by decide) (fun _ => ?_) (fun _ => ?_)
  · refine g_aload_n C dX9_worked_164 0 rfl rfl ?_
    refine g_getr C 11 7 Fx9 h0 (by decide) rfl rfl q_930 dX9_worked_165 ?_
    refine g_iconst C (0 : Int32) dX9_worked_168 rfl ?_
    refine g_iald (n := 64) C (cl_9_11 h0) dX9_worked_169 (fun _ => ?_)
    exact g_iret C Rr dX9_worked_170
  · refine g_aload_n C dX9_worked_25 0 rfl rfl ?_
    refine g_getr C 0 1 Fx9 h0 (by decide) rfl rfl q_919 dX9_worked_26 ?_
    refine g_iload_n C dX9_worked_29 1 rfl rfl ?_
    refine g_iconst C (1 : Int32) dX9_worked_30 rfl ?_
    refine g_iadd C dX9_worked_31 ?_
    refine g_iconst C (2 : Int32) dX9_worked_32 rfl ?_
    refine g_iload C dX9_worked_33 3 rfl ?_
    refine g_imul C dX9_worked_35 ?_
    refine g_iadd C dX9_worked_36 ?_
    refine g_iald (n := 516) C (cl_9_0 h0) dX9_worked_37 (fun _ => ?_)
    refine g_bnd (fun y1 => ?_)
    refine g_istore C dX9_worked_38 (by decide) rfl ?_
    refine g_aload_n C dX9_worked_40 1 rfl rfl ?_
    refine g_getr C 0 1 Fx9 h0 (by decide) rfl rfl q_919 dX9_worked_41 ?_
    refine g_iload_n C dX9_worked_44 2 rfl rfl ?_
    refine g_iconst C (2 : Int32) dX9_worked_45 rfl ?_
    refine g_iadd C dX9_worked_46 ?_
    refine g_iconst C (2 : Int32) dX9_worked_47 rfl ?_
    refine g_iload C dX9_worked_48 4 rfl ?_
    refine g_imul C dX9_worked_50 ?_
    refine g_iadd C dX9_worked_51 ?_
    refine g_iald (n := 516) C (cl_9_0 h0) dX9_worked_52 (fun _ => ?_)
    refine g_bnd (fun y2 => ?_)
    refine g_istore C dX9_worked_53 (by decide) rfl ?_
    refine g_iload C dX9_worked_55 1 rfl ?_
    refine g_if_eq C 66 dX9_worked_57 (by decide) (fun _ => ?_) (fun _ => ?_)
    · refine g_sub [2, 3, 4, 5, 1, 0] rfl ?_
      exact s_X9_worked_J66 C Rr hk14 a0 x2 x3 x4 y1 y2 h0 m0
    · refine g_iload C dX9_worked_60 1 rfl ?_
      refine g_iconst C (1 : Int32) dX9_worked_62 rfl ?_
      refine g_icmp_ne C 95 dX9_worked_63 (by decide) (fun _ => ?_) (fun _ => ?_)
      · refine g_iload C dX9_worked_95 1 rfl ?_
        refine g_iconst C (2 : Int32) dX9_worked_97 rfl ?_
        refine g_icmp_ne C 128 dX9_worked_98 (by decide) (fun _ => ?_) (fun _ => ?_)
        · refine g_iinc (k := 4) C dX9_worked_128 rfl (w := (-1 : Int32)) rfl (by decide) (fun v_ => [(3, .int v_), (6, .int y2), (5, .int y1), (0, .ref (kf K a0)), (2, .int x2), (4, .int x4)]) (fun _ => rfl) (fun y3 => ?_)
          refine g_aload_n C dX9_worked_131 3 rfl rfl ?_
          refine g_getr C 11 7 Fx9 h0 (by decide) rfl rfl q_930 dX9_worked_132 ?_
          refine g_iload_n C dX9_worked_135 0 rfl rfl ?_
          refine g_iconst C (1 : Int32) dX9_worked_136 rfl ?_
          refine g_isub C dX9_worked_137 ?_
          refine g_iload C dX9_worked_138 1 rfl ?_
          refine g_aload_n C dX9_worked_140 3 rfl rfl ?_
          refine g_getr C 11 7 Fx9 h0 (by decide) rfl rfl q_930 dX9_worked_141 ?_
          refine g_iload_n C dX9_worked_144 0 rfl rfl ?_
          refine g_iconst C (1 : Int32) dX9_worked_145 rfl ?_
          refine g_isub C dX9_worked_146 ?_
          refine g_iald (n := 64) C (cl_9_11 h0) dX9_worked_147 (fun _ => ?_)
          refine g_aload_n C dX9_worked_148 3 rfl rfl ?_
          refine g_getr C 11 7 Fx9 h0 (by decide) rfl rfl q_930 dX9_worked_149 ?_
          refine g_iload_n C dX9_worked_152 0 rfl rfl ?_
          refine g_iald (n := 64) C (cl_9_11 h0) dX9_worked_153 (fun _ => ?_)
          refine g_callSi C cv_X9_joined q_1151 (ct_X9_joined y2 (m0 (a0 + 7) (y3 - (1 : Int32)).toNatClampNeg) (m0 (a0 + 7) y3.toNatClampNeg)  m0) q_1150 (by decide) rfl rfl (Nat.le_of_ble_eq_true rfl) dX9_worked_154 (fun r4 m5 => ?_)
          refine g_iast (n := 64) C (cl_9_11 h0) dX9_worked_157 (fun m6 => ?_)
          refine g_sub [3, 4, 0, 5] rfl ?_
          exact s_X9_worked_J158 C Rr hk14 a0 x2 y3 x4 h0 m6
        · refine g_aload_n C dX9_worked_101 2 rfl rfl ?_
          refine g_getr C 11 7 Fx9 h0 (by decide) rfl rfl q_930 dX9_worked_102 ?_
          refine g_iload_n C dX9_worked_105 4 rfl rfl ?_
          refine g_iconst C (1 : Int32) dX9_worked_106 rfl ?_
          refine g_isub C dX9_worked_107 ?_
          refine g_aload_n C dX9_worked_108 2 rfl rfl ?_
          refine g_getr C 11 7 Fx9 h0 (by decide) rfl rfl q_930 dX9_worked_109 ?_
          refine g_iload_n C dX9_worked_112 4 rfl rfl ?_
          refine g_iconst C (1 : Int32) dX9_worked_113 rfl ?_
          refine g_isub C dX9_worked_114 ?_
          refine g_iald (n := 64) C (cl_9_11 h0) dX9_worked_115 (fun _ => ?_)
          refine g_if_ne C 123 dX9_worked_116 (by decide) (fun _ => ?_) (fun _ => ?_)
          · refine g_iconst C (0 : Int32) dX9_worked_123 rfl ?_
            refine g_sub [2, 3, 4, 5] rfl ?_
            exact s_X9_worked_J124 C Rr hk14 a0 x2 x3 x4 (a0 + 7) (x3 - (1 : Int32)) (0 : Int32) h0 (cl_9_11 h0) m0
          · refine g_iconst C (1 : Int32) dX9_worked_119 rfl ?_
            refine g_goto C 124 dX9_worked_120 (by decide) ?_
            refine g_sub [2, 3, 4, 5] rfl ?_
            exact s_X9_worked_J124 C Rr hk14 a0 x2 x3 x4 (a0 + 7) (x3 - (1 : Int32)) (1 : Int32) h0 (cl_9_11 h0) m0
      · refine g_sub [2, 3, 4, 5, 1, 0] rfl ?_
        exact s_X9_worked_J66 C Rr hk14 a0 x2 x3 x4 y1 y2 h0 m0
theorem s_X9_worked_L14 {K : KT}  (C : Cx K cX9_worked RX9 7 2) (Rr : Rx K (some .int))    : ∀ (n : Nat) (a0 : Nat) (x2 : Int32) (x3 : Int32) (x4 : Int32) (h0 : tg a0 = 9) (m0 : Mem), G K 14 [(0, .ref (kf K a0)), (2, .int x2), (3, .int x3), (4, .int x4)] [] m0 (X9_worked_L14 n a0 x2 x3 x4 m0) := by
  intro n
  induction n with
  | zero => intros; exact g_none
  | succ n ih =>
    intro a0 x2 x3 x4 h0 m0
    exact s_X9_worked_L14B C Rr  ih a0 x2 x3 x4 h0 m0
set_option maxHeartbeats 2000000 in
theorem s_X9_worked {K : KT}  (C : Cx K cX9_worked RX9 7 2) (Rr : Rx K (some .int))  (a0 : Nat) (x1 : Int32) (h0 : tg a0 = 9) (m0 : Mem) : G K 0 [(0, .ref (kf K a0)), (1, .int x1)] [] m0 (f_X9_worked a0 x1 m0) := by
  unfold f_X9_worked
  refine g_sipush C (182 : Int32) dX9_worked_0 rfl ?_
  refine g_bipush C (125 : Int32) dX9_worked_3 rfl ?_
  refine g_iload_n C dX9_worked_5 1 rfl rfl ?_
  refine g_imul C dX9_worked_6 ?_
  refine g_iadd C dX9_worked_7 ?_
  refine g_bnd (fun y1 => ?_)
  refine g_istore_n C dX9_worked_8 rfl (by decide) rfl ?_
  refine g_iconst C (0 : Int32) dX9_worked_9 rfl ?_
  refine g_istore_n C dX9_worked_10 rfl (by decide) rfl ?_
  refine g_iconst C (0 : Int32) dX9_worked_11 rfl ?_
  refine g_istore C dX9_worked_12 (by decide) rfl ?_
  refine g_sub [3, 2, 1, 0] rfl ?_
  exact s_X9_worked_L14 C Rr FU a0 y1 (0 : Int32) (0 : Int32) h0 m0
theorem ct_X9_worked {Ω : OT} (a0 : Nat) (x1 : Int32) (h0 : tg a0 = 9) (m0 : Mem) : Ct Ω yX9_worked cX9_worked 7 (some .int) 2 [.ref (oF Ω a0), .int x1] m0 (f_X9_worked a0 x1 m0) := by
  refine Ct_of (by decide) (Nat.le_of_ble_eq_true rfl) ?_
  intro K hK C Rr
  subst hK
  exact s_X9_worked C Rr  a0 x1 h0 m0
def X9_fillsTold_J62   (a0 : Nat) (x1 : Int32) (x2 : Int32) (as0 : Nat) (xs1 : Int32) (xs2 : Int32) (m0 : Mem) : Res :=
  gd (inb xs1 128) (bnd (mset m0 as0 xs1.toNatClampNeg xs2) (fun m1 =>
  gd (inb (103 : Int32) 128) (bnd (mset m1 (a0 + 6) (103 : Int32).toNatClampNeg x2) (fun m2 =>
  cal (f_X9_its a0 x1 (1 : Int32) m2) (fun r3 m4 =>
  gd (inb (109 : Int32) 128) (bnd (mset m4 (a0 + 6) (109 : Int32).toNatClampNeg r3) (fun m5 =>
  cal (f_X9_worked a0 (0 : Int32) m5) (fun r6 m7 =>
  some (r6, m7)))))))))
def f_X9_fillsTold  (a0 : Nat) (x1 : Int32) (x2 : Int32) (m0 : Mem) : Res :=
  cal (f_X9_hasText a0 (0 : Int32) m0) (fun r1 m2 =>
  (if r1 = 0 then
  cal (f_X9_its a0 x1 ((3 : Int32) + x2) m2) (fun r10 m11 =>
  some (r10, m11))
  else
  cal (f_X9_left a0 x1 m2) (fun r3 m4 =>
  cal (f_X9_its a0 x1 ((3 : Int32) + x2) m4) (fun r5 m6 =>
  gd (inb (107 : Int32) 128) (bnd (mset m6 (a0 + 6) (107 : Int32).toNatClampNeg r5) (fun m7 =>
  (if r3 = (-1 : Int32) then
  X9_fillsTold_J62 a0 x1 x2 (a0 + 6) (108 : Int32) (0 : Int32) m7
  else
  cal (f_X9_its a0 r3 ((9 : Int32) + x2) m7) (fun r8 m9 =>
  X9_fillsTold_J62 a0 x1 x2 (a0 + 6) (108 : Int32) r8 m9))))))))
set_option maxHeartbeats 2000000 in
theorem s_X9_fillsTold_J62 {K : KT}  (C : Cx K cX9_fillsTold RX9 4 3) (Rr : Rx K (some .int))    (a0 : Nat) (x1 : Int32) (x2 : Int32) (as0 : Nat) (xs1 : Int32) (xs2 : Int32) (h0 : tg a0 = 9) (hs0 : tg as0 = 100 + 128) (m0 : Mem) : G K 62 [(0, .ref (kf K a0)), (1, .int x1), (2, .int x2)] [.int xs2, .int xs1, .ref (kf K as0)] m0 (X9_fillsTold_J62 a0 x1 x2 as0 xs1 xs2 m0) := by
  unfold X9_fillsTold_J62
  refine g_iast (n := 128) C hs0 dX9_fillsTold_62 (fun m1 => ?_)
  refine g_aload_n C dX9_fillsTold_63 0 rfl rfl ?_
  refine g_getr C 10 6 Fx9 h0 (by decide) rfl rfl q_929 dX9_fillsTold_64 ?_
  refine g_bipush C (103 : Int32) dX9_fillsTold_67 rfl ?_
  refine g_iload_n C dX9_fillsTold_69 2 rfl rfl ?_
  refine g_iast (n := 128) C (cl_9_10 h0) dX9_fillsTold_70 (fun m2 => ?_)
  refine g_aload_n C dX9_fillsTold_71 0 rfl rfl ?_
  refine g_getr C 10 6 Fx9 h0 (by decide) rfl rfl q_929 dX9_fillsTold_72 ?_
  refine g_bipush C (109 : Int32) dX9_fillsTold_75 rfl ?_
  refine g_aload_n C dX9_fillsTold_77 0 rfl rfl ?_
  refine g_iload_n C dX9_fillsTold_78 1 rfl rfl ?_
  refine g_iconst C (1 : Int32) dX9_fillsTold_79 rfl ?_
  refine g_callVi C cv_X9_its (ct_X9_its a0 x1 (1 : Int32) h0 m2) q_1031 h0 (by decide) rfl rfl (Nat.le_of_ble_eq_true rfl) dX9_fillsTold_80 (fun r3 m4 => ?_)
  refine g_iast (n := 128) C (cl_9_10 h0) dX9_fillsTold_83 (fun m5 => ?_)
  refine g_aload_n C dX9_fillsTold_84 0 rfl rfl ?_
  refine g_iconst C (0 : Int32) dX9_fillsTold_85 rfl ?_
  refine g_callVi C cv_X9_worked (ct_X9_worked a0 (0 : Int32) h0 m5) q_1146 h0 (by decide) rfl rfl (Nat.le_of_ble_eq_true rfl) dX9_fillsTold_86 (fun r6 m7 => ?_)
  exact g_iret C Rr dX9_fillsTold_89
set_option maxHeartbeats 2000000 in
theorem s_X9_fillsTold {K : KT}  (C : Cx K cX9_fillsTold RX9 4 3) (Rr : Rx K (some .int))  (a0 : Nat) (x1 : Int32) (x2 : Int32) (h0 : tg a0 = 9) (m0 : Mem) : G K 0 [(0, .ref (kf K a0)), (1, .int x1), (2, .int x2)] [] m0 (f_X9_fillsTold a0 x1 x2 m0) := by
  unfold f_X9_fillsTold
  refine g_aload_n C dX9_fillsTold_0 0 rfl rfl ?_
  refine g_iconst C (0 : Int32) dX9_fillsTold_1 rfl ?_
  refine g_callVi C cv_X9_hasText (ct_X9_hasText a0 (0 : Int32) h0 m0) q_1130 h0 (by decide) rfl rfl (Nat.le_of_ble_eq_true rfl) dX9_fillsTold_2 (fun r1 m2 => ?_)
  refine g_if_ne C 17 dX9_fillsTold_5 (by decide) (fun _ => ?_) (fun _ => ?_)
  · refine g_aload_n C dX9_fillsTold_17 0 rfl rfl ?_
    refine g_iload_n C dX9_fillsTold_18 1 rfl rfl ?_
    refine g_callVi C cv_X9_left (ct_X9_left a0 x1 h0 m2) q_1027 h0 (by decide) rfl rfl (Nat.le_of_ble_eq_true rfl) dX9_fillsTold_19 (fun r3 m4 => ?_)
    refine g_istore_n C dX9_fillsTold_22 rfl (by decide) rfl ?_
    refine g_aload_n C dX9_fillsTold_23 1 rfl rfl ?_
    refine g_getr C 10 6 Fx9 h0 (by decide) rfl rfl q_929 dX9_fillsTold_24 ?_
    refine g_bipush C (107 : Int32) dX9_fillsTold_27 rfl ?_
    refine g_aload_n C dX9_fillsTold_29 1 rfl rfl ?_
    refine g_iload_n C dX9_fillsTold_30 2 rfl rfl ?_
    refine g_iconst C (3 : Int32) dX9_fillsTold_31 rfl ?_
    refine g_iload_n C dX9_fillsTold_32 3 rfl rfl ?_
    refine g_iadd C dX9_fillsTold_33 ?_
    refine g_callVi C cv_X9_its (ct_X9_its a0 x1 ((3 : Int32) + x2) h0 m4) q_1031 h0 (by decide) rfl rfl (Nat.le_of_ble_eq_true rfl) dX9_fillsTold_34 (fun r5 m6 => ?_)
    refine g_iast (n := 128) C (cl_9_10 h0) dX9_fillsTold_37 (fun m7 => ?_)
    refine g_aload_n C dX9_fillsTold_38 1 rfl rfl ?_
    refine g_getr C 10 6 Fx9 h0 (by decide) rfl rfl q_929 dX9_fillsTold_39 ?_
    refine g_bipush C (108 : Int32) dX9_fillsTold_42 rfl ?_
    refine g_iload_n C dX9_fillsTold_44 0 rfl rfl ?_
    refine g_iconst C (-1 : Int32) dX9_fillsTold_45 rfl ?_
    refine g_icmp_ne C 53 dX9_fillsTold_46 (by decide) (fun _ => ?_) (fun _ => ?_)
    · refine g_aload_n C dX9_fillsTold_53 1 rfl rfl ?_
      refine g_iload_n C dX9_fillsTold_54 0 rfl rfl ?_
      refine g_bipush C (9 : Int32) dX9_fillsTold_55 rfl ?_
      refine g_iload_n C dX9_fillsTold_57 3 rfl rfl ?_
      refine g_iadd C dX9_fillsTold_58 ?_
      refine g_callVi C cv_X9_its (ct_X9_its a0 r3 ((9 : Int32) + x2) h0 m7) q_1031 h0 (by decide) rfl rfl (Nat.le_of_ble_eq_true rfl) dX9_fillsTold_59 (fun r8 m9 => ?_)
      refine g_sub [1, 2, 3] rfl ?_
      exact s_X9_fillsTold_J62 C Rr a0 x1 x2 (a0 + 6) (108 : Int32) r8 h0 (cl_9_10 h0) m9
    · refine g_iconst C (0 : Int32) dX9_fillsTold_49 rfl ?_
      refine g_goto C 62 dX9_fillsTold_50 (by decide) ?_
      refine g_sub [1, 2, 3] rfl ?_
      exact s_X9_fillsTold_J62 C Rr a0 x1 x2 (a0 + 6) (108 : Int32) (0 : Int32) h0 (cl_9_10 h0) m7
  · refine g_aload_n C dX9_fillsTold_8 0 rfl rfl ?_
    refine g_iload_n C dX9_fillsTold_9 1 rfl rfl ?_
    refine g_iconst C (3 : Int32) dX9_fillsTold_10 rfl ?_
    refine g_iload_n C dX9_fillsTold_11 2 rfl rfl ?_
    refine g_iadd C dX9_fillsTold_12 ?_
    refine g_callVi C cv_X9_its (ct_X9_its a0 x1 ((3 : Int32) + x2) h0 m2) q_1031 h0 (by decide) rfl rfl (Nat.le_of_ble_eq_true rfl) dX9_fillsTold_13 (fun r10 m11 => ?_)
    exact g_iret C Rr dX9_fillsTold_16
theorem ct_X9_fillsTold {Ω : OT} (a0 : Nat) (x1 : Int32) (x2 : Int32) (h0 : tg a0 = 9) (m0 : Mem) : Ct Ω yX9_fillsTold cX9_fillsTold 4 (some .int) 3 [.ref (oF Ω a0), .int x1, .int x2] m0 (f_X9_fillsTold a0 x1 x2 m0) := by
  refine Ct_of (by decide) (Nat.le_of_ble_eq_true rfl) ?_
  intro K hK C Rr
  subst hK
  exact s_X9_fillsTold C Rr  a0 x1 x2 h0 m0
def X9_fillsOf_J143   (x5 : Int32) (m0 : Mem) : Res :=
  cal (f_X9_held x5 (0 : Int32) (99 : Int32) m0) (fun r1 m2 =>
  some (r1, m2))
def X9_fillsOf_J87   (x3 : Int32) (m0 : Mem) : Res :=
  gd (!((2 : Int32) == 0)) (
  bnd (x3 / (2 : Int32)) (fun y1 =>
  X9_fillsOf_J143 y1 m0))
def X9_fillsOf_J104   (xs0 : Int32) (m0 : Mem) : Res :=
  X9_fillsOf_J143 xs0 m0
def X9_fillsOf_J127   (xs0 : Int32) (m0 : Mem) : Res :=
  X9_fillsOf_J143 xs0 m0
def X9_fillsOf_J29   (a0 : Nat) (x1 : Int32) (x2 : Int32) (x3 : Int32) (xs0 : Int32) (m0 : Mem) : Res :=
  cal (f_X9_its a0 x1 (0 : Int32) m0) (fun r1 m2 =>
  (if r1 = (1 : Int32) then
  X9_fillsOf_J143 xs0 m2
  else
  if r1 = (2 : Int32) then
  X9_fillsOf_J87 x3 m2
  else
  if r1 = (3 : Int32) then
  (if x3 ≤ 0 then
  X9_fillsOf_J104 (0 : Int32) m2
  else
  X9_fillsOf_J104 (1 : Int32) m2)
  else
  if r1 = (4 : Int32) then
  (if xs0 ≤ 0 then
  X9_fillsOf_J127 (0 : Int32) m2
  else
  cal (f_X9_its a0 x1 (1 : Int32) m2) (fun r6 m7 =>
  X9_fillsOf_J127 (xs0 + r6) m7))
  else
  if r1 = (5 : Int32) then
  X9_fillsOf_J87 x3 m2
  else
  if r1 = (6 : Int32) then
  cal (f_X9_fillsTold a0 x1 x2 m2) (fun r10 m11 =>
  X9_fillsOf_J143 r10 m11)
  else
  X9_fillsOf_J143 x3 m2))
def f_X9_fillsOf  (a0 : Nat) (x1 : Int32) (x2 : Int32) (m0 : Mem) : Res :=
  cal (f_X9_its a0 x1 ((3 : Int32) + x2) m0) (fun r1 m2 =>
  cal (f_X9_left a0 x1 m2) (fun r3 m4 =>
  cal (f_X9_lacks1 a0 r3 x2 (9 : Int32) m4) (fun r5 m6 =>
  (if r5 = 0 then
  X9_fillsOf_J29 a0 x1 x2 r1 (0 : Int32) m6
  else
  X9_fillsOf_J29 a0 x1 x2 r1 r1 m6))))
set_option maxHeartbeats 2000000 in
theorem s_X9_fillsOf_J143 {K : KT}  (C : Cx K cX9_fillsOf RX9 6 4) (Rr : Rx K (some .int))    (x5 : Int32)  (m0 : Mem) : G K 143 [(5, .int x5)] [] m0 (X9_fillsOf_J143 x5 m0) := by
  unfold X9_fillsOf_J143
  refine g_iload C dX9_fillsOf_143 0 rfl ?_
  refine g_iconst C (0 : Int32) dX9_fillsOf_145 rfl ?_
  refine g_bipush C (99 : Int32) dX9_fillsOf_146 rfl ?_
  refine g_callSi C cv_X9_held q_1154 (ct_X9_held x5 (0 : Int32) (99 : Int32)  m0) q_1153 (by decide) rfl rfl (Nat.le_of_ble_eq_true rfl) dX9_fillsOf_148 (fun r1 m2 => ?_)
  exact g_iret C Rr dX9_fillsOf_151
set_option maxHeartbeats 2000000 in
theorem s_X9_fillsOf_J87 {K : KT}  (C : Cx K cX9_fillsOf RX9 6 4) (Rr : Rx K (some .int))    (x3 : Int32)  (m0 : Mem) : G K 87 [(3, .int x3)] [] m0 (X9_fillsOf_J87 x3 m0) := by
  unfold X9_fillsOf_J87
  refine g_iload_n C dX9_fillsOf_87 0 rfl rfl ?_
  refine g_iconst C (2 : Int32) dX9_fillsOf_88 rfl ?_
  refine g_idiv C dX9_fillsOf_89 (fun _ => ?_)
  refine g_bnd (fun y1 => ?_)
  refine g_istore C dX9_fillsOf_90 (by decide) rfl ?_
  refine g_goto C 143 dX9_fillsOf_92 (by decide) ?_
  refine g_sub [0] rfl ?_
  exact s_X9_fillsOf_J143 C Rr y1 m0
set_option maxHeartbeats 2000000 in
theorem s_X9_fillsOf_J104 {K : KT}  (C : Cx K cX9_fillsOf RX9 6 4) (Rr : Rx K (some .int))    (xs0 : Int32)  (m0 : Mem) : G K 104 [] [.int xs0] m0 (X9_fillsOf_J104 xs0 m0) := by
  unfold X9_fillsOf_J104
  refine g_istore C dX9_fillsOf_104 (by decide) rfl ?_
  refine g_goto C 143 dX9_fillsOf_106 (by decide) ?_
  refine g_sub [0] rfl ?_
  exact s_X9_fillsOf_J143 C Rr xs0 m0
set_option maxHeartbeats 2000000 in
theorem s_X9_fillsOf_J127 {K : KT}  (C : Cx K cX9_fillsOf RX9 6 4) (Rr : Rx K (some .int))    (xs0 : Int32)  (m0 : Mem) : G K 127 [] [.int xs0] m0 (X9_fillsOf_J127 xs0 m0) := by
  unfold X9_fillsOf_J127
  refine g_istore C dX9_fillsOf_127 (by decide) rfl ?_
  refine g_goto C 143 dX9_fillsOf_129 (by decide) ?_
  refine g_sub [0] rfl ?_
  exact s_X9_fillsOf_J143 C Rr xs0 m0
set_option maxHeartbeats 2000000 in
theorem s_X9_fillsOf_J29 {K : KT}  (C : Cx K cX9_fillsOf RX9 6 4) (Rr : Rx K (some .int))    (a0 : Nat) (x1 : Int32) (x2 : Int32) (x3 : Int32) (xs0 : Int32) (h0 : tg a0 = 9) (m0 : Mem) : G K 29 [(0, .ref (kf K a0)), (1, .int x1), (2, .int x2), (3, .int x3)] [.int xs0] m0 (X9_fillsOf_J29 a0 x1 x2 x3 xs0 m0) := by
  unfold X9_fillsOf_J29
  refine g_istore C dX9_fillsOf_29 (by decide) rfl ?_
  refine g_iload_n C dX9_fillsOf_31 4 rfl rfl ?_
  refine g_istore C dX9_fillsOf_32 (by decide) rfl ?_
  refine g_aload_n C dX9_fillsOf_34 2 rfl rfl ?_
  refine g_iload_n C dX9_fillsOf_35 3 rfl rfl ?_
  refine g_iconst C (0 : Int32) dX9_fillsOf_36 rfl ?_
  refine g_callVi C cv_X9_its (ct_X9_its a0 x1 (0 : Int32) h0 m0) q_1031 h0 (by decide) rfl rfl (Nat.le_of_ble_eq_true rfl) dX9_fillsOf_37 (fun r1 m2 => ?_)
  refine g_tsw C 80 dX9_fillsOf_40 (by decide) rfl (by decide) ?_ (fun e3 => ?_)
  · refine g_iload C dX9_fillsOf_80 1 rfl ?_
    refine g_istore C dX9_fillsOf_82 (by decide) rfl ?_
    refine g_goto C 143 dX9_fillsOf_84 (by decide) ?_
    refine g_sub [0] rfl ?_
    exact s_X9_fillsOf_J143 C Rr xs0 m2
  refine g_tsw C 87 dX9_fillsOf_40 (by decide) rfl (by decide) ?_ (fun e4 => ?_)
  · refine g_sub [5] rfl ?_
    exact s_X9_fillsOf_J87 C Rr x3 m2
  refine g_tsw C 95 dX9_fillsOf_40 (by decide) rfl (by decide) ?_ (fun e5 => ?_)
  · refine g_iload_n C dX9_fillsOf_95 5 rfl rfl ?_
    refine g_if_le C 103 dX9_fillsOf_96 (by decide) (fun _ => ?_) (fun _ => ?_)
    · refine g_iconst C (0 : Int32) dX9_fillsOf_103 rfl ?_
      refine g_sub [] rfl ?_
      exact s_X9_fillsOf_J104 C Rr (0 : Int32) m2
    · refine g_iconst C (1 : Int32) dX9_fillsOf_99 rfl ?_
      refine g_goto C 104 dX9_fillsOf_100 (by decide) ?_
      refine g_sub [] rfl ?_
      exact s_X9_fillsOf_J104 C Rr (1 : Int32) m2
  refine g_tsw C 109 dX9_fillsOf_40 (by decide) rfl (by decide) ?_ (fun e8 => ?_)
  · refine g_iload C dX9_fillsOf_109 1 rfl ?_
    refine g_if_le C 126 dX9_fillsOf_111 (by decide) (fun _ => ?_) (fun _ => ?_)
    · refine g_iconst C (0 : Int32) dX9_fillsOf_126 rfl ?_
      refine g_sub [] rfl ?_
      exact s_X9_fillsOf_J127 C Rr (0 : Int32) m2
    · refine g_iload C dX9_fillsOf_114 1 rfl ?_
      refine g_aload_n C dX9_fillsOf_116 2 rfl rfl ?_
      refine g_iload_n C dX9_fillsOf_117 3 rfl rfl ?_
      refine g_iconst C (1 : Int32) dX9_fillsOf_118 rfl ?_
      refine g_callVi C cv_X9_its (ct_X9_its a0 x1 (1 : Int32) h0 m2) q_1031 h0 (by decide) rfl rfl (Nat.le_of_ble_eq_true rfl) dX9_fillsOf_119 (fun r6 m7 => ?_)
      refine g_iadd C dX9_fillsOf_122 ?_
      refine g_goto C 127 dX9_fillsOf_123 (by decide) ?_
      refine g_sub [] rfl ?_
      exact s_X9_fillsOf_J127 C Rr (xs0 + r6) m7
  refine g_tsw C 87 dX9_fillsOf_40 (by decide) rfl (by decide) ?_ (fun e9 => ?_)
  · refine g_sub [5] rfl ?_
    exact s_X9_fillsOf_J87 C Rr x3 m2
  refine g_tsw C 132 dX9_fillsOf_40 (by decide) rfl (by decide) ?_ (fun e12 => ?_)
  · refine g_aload_n C dX9_fillsOf_132 2 rfl rfl ?_
    refine g_iload_n C dX9_fillsOf_133 3 rfl rfl ?_
    refine g_iload_n C dX9_fillsOf_134 4 rfl rfl ?_
    refine g_callVi C cv_X9_fillsTold (ct_X9_fillsTold a0 x1 x2 h0 m2) q_1164 h0 (by decide) rfl rfl (Nat.le_of_ble_eq_true rfl) dX9_fillsOf_135 (fun r10 m11 => ?_)
    refine g_istore C dX9_fillsOf_138 (by decide) rfl ?_
    refine g_goto C 143 dX9_fillsOf_140 (by decide) ?_
    refine g_sub [0] rfl ?_
    exact s_X9_fillsOf_J143 C Rr r10 m11
  refine g_tswd C 143 dX9_fillsOf_40 (sw_out [(1 : Int32), (2 : Int32), (3 : Int32), (4 : Int32), (5 : Int32), (6 : Int32)] (by intro v hv; simp only [List.mem_cons, List.not_mem_nil, or_false] at hv; rcases hv with rfl | rfl | rfl | rfl | rfl | rfl <;> assumption) (fun i h1 h2 => by have hi : i = 1 ∨ i = 2 ∨ i = 3 ∨ i = 4 ∨ i = 5 ∨ i = 6 := (by omega); rcases hi with rfl | rfl | rfl | rfl | rfl | rfl <;> simp)) (by decide) ?_
  refine g_sub [0] rfl ?_
  exact s_X9_fillsOf_J143 C Rr x3 m2
set_option maxHeartbeats 2000000 in
theorem s_X9_fillsOf {K : KT}  (C : Cx K cX9_fillsOf RX9 6 4) (Rr : Rx K (some .int))  (a0 : Nat) (x1 : Int32) (x2 : Int32) (h0 : tg a0 = 9) (m0 : Mem) : G K 0 [(0, .ref (kf K a0)), (1, .int x1), (2, .int x2)] [] m0 (f_X9_fillsOf a0 x1 x2 m0) := by
  unfold f_X9_fillsOf
  refine g_aload_n C dX9_fillsOf_0 0 rfl rfl ?_
  refine g_iload_n C dX9_fillsOf_1 1 rfl rfl ?_
  refine g_iconst C (3 : Int32) dX9_fillsOf_2 rfl ?_
  refine g_iload_n C dX9_fillsOf_3 2 rfl rfl ?_
  refine g_iadd C dX9_fillsOf_4 ?_
  refine g_callVi C cv_X9_its (ct_X9_its a0 x1 ((3 : Int32) + x2) h0 m0) q_1031 h0 (by decide) rfl rfl (Nat.le_of_ble_eq_true rfl) dX9_fillsOf_5 (fun r1 m2 => ?_)
  refine g_istore_n C dX9_fillsOf_8 rfl (by decide) rfl ?_
  refine g_aload_n C dX9_fillsOf_9 1 rfl rfl ?_
  refine g_aload_n C dX9_fillsOf_10 1 rfl rfl ?_
  refine g_iload_n C dX9_fillsOf_11 2 rfl rfl ?_
  refine g_callVi C cv_X9_left (ct_X9_left a0 x1 h0 m2) q_1027 h0 (by decide) rfl rfl (Nat.le_of_ble_eq_true rfl) dX9_fillsOf_12 (fun r3 m4 => ?_)
  refine g_iload_n C dX9_fillsOf_15 3 rfl rfl ?_
  refine g_bipush C (9 : Int32) dX9_fillsOf_16 rfl ?_
  refine g_callVi C cv_X9_lacks1 (ct_X9_lacks1 a0 r3 x2 (9 : Int32) h0 m4) q_1035 h0 (by decide) rfl rfl (Nat.le_of_ble_eq_true rfl) dX9_fillsOf_18 (fun r5 m6 => ?_)
  refine g_if_eq C 28 dX9_fillsOf_21 (by decide) (fun _ => ?_) (fun _ => ?_)
  · refine g_iconst C (0 : Int32) dX9_fillsOf_28 rfl ?_
    refine g_sub [1, 2, 3, 0] rfl ?_
    exact s_X9_fillsOf_J29 C Rr a0 x1 x2 r1 (0 : Int32) h0 m6
  · refine g_iload_n C dX9_fillsOf_24 0 rfl rfl ?_
    refine g_goto C 29 dX9_fillsOf_25 (by decide) ?_
    refine g_sub [1, 2, 3, 0] rfl ?_
    exact s_X9_fillsOf_J29 C Rr a0 x1 x2 r1 r1 h0 m6
theorem ct_X9_fillsOf {Ω : OT} (a0 : Nat) (x1 : Int32) (x2 : Int32) (h0 : tg a0 = 9) (m0 : Mem) : Ct Ω yX9_fillsOf cX9_fillsOf 6 (some .int) 4 [.ref (oF Ω a0), .int x1, .int x2] m0 (f_X9_fillsOf a0 x1 x2 m0) := by
  refine Ct_of (by decide) (Nat.le_of_ble_eq_true rfl) ?_
  intro K hK C Rr
  subst hK
  exact s_X9_fillsOf C Rr  a0 x1 x2 h0 m0
