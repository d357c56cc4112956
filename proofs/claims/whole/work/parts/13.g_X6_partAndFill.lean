def X6_partAndFill_J35 (R : Nat → Int32 → Int32 → Int32 → Int32 → Mem → Res)  (xs0 : Int32) (m0 : Mem) : Res :=
  some (xs0, m0)
def f_X6_partAndFill (R : Nat → Int32 → Int32 → Int32 → Int32 → Mem → Res) (a0 : Nat) (x1 : Int32) (x2 : Int32) (x3 : Int32) (m0 : Mem) : Res :=
  cal (R a0 x1 (3 : Int32) x2 x3 m0) (fun r1 m2 =>
  (if (m2 a0 2) = 0 then
  cal (R a0 (m2 a0 3) (1 : Int32) (1 : Int32) x3 m2) (fun r3 m4 =>
  X6_partAndFill_J35 R (r1 + r3) m4)
  else
  X6_partAndFill_J35 R (0 : Int32) m2))
set_option maxHeartbeats 2000000 in
theorem s_X6_partAndFill_J35 {K : KT} {R : Nat → Int32 → Int32 → Int32 → Int32 → Mem → Res} {dR : Nat} (C : Cx K cX6_partAndFill RX6 5 (dR + 1)) (Rr : Rx K (some .int)) (hR : ∀ (a0 : Nat) (x1 : Int32) (x2 : Int32) (x3 : Int32) (x4 : Int32) (h0 : tg a0 = 6) (m0 : Mem), Ct (kO K) yX6_say cX6_say 9 (some .int) dR [.ref (oF (kO K) a0), .int x1, .int x2, .int x3, .int x4] m0 (R a0 x1 x2 x3 x4 m0)) (hd : 8 ≤ dR)   (xs0 : Int32)  (m0 : Mem) : G K 35 [] [.int xs0] m0 (X6_partAndFill_J35 R xs0 m0) := by
  unfold X6_partAndFill_J35
  exact g_iret C Rr dX6_partAndFill_35
set_option maxHeartbeats 2000000 in
theorem s_X6_partAndFill {K : KT} {R : Nat → Int32 → Int32 → Int32 → Int32 → Mem → Res} {dR : Nat} (C : Cx K cX6_partAndFill RX6 5 (dR + 1)) (Rr : Rx K (some .int)) (hR : ∀ (a0 : Nat) (x1 : Int32) (x2 : Int32) (x3 : Int32) (x4 : Int32) (h0 : tg a0 = 6) (m0 : Mem), Ct (kO K) yX6_say cX6_say 9 (some .int) dR [.ref (oF (kO K) a0), .int x1, .int x2, .int x3, .int x4] m0 (R a0 x1 x2 x3 x4 m0)) (hd : 8 ≤ dR) (a0 : Nat) (x1 : Int32) (x2 : Int32) (x3 : Int32) (h0 : tg a0 = 6) (m0 : Mem) : G K 0 [(0, .ref (kf K a0)), (1, .int x1), (2, .int x2), (3, .int x3)] [] m0 (f_X6_partAndFill R a0 x1 x2 x3 m0) := by
  unfold f_X6_partAndFill
  refine g_aload_n C dX6_partAndFill_0 0 rfl rfl ?_
  refine g_iload_n C dX6_partAndFill_1 1 rfl rfl ?_
  refine g_iconst C (3 : Int32) dX6_partAndFill_2 rfl ?_
  refine g_iload_n C dX6_partAndFill_3 2 rfl rfl ?_
  refine g_iload_n C dX6_partAndFill_4 3 rfl rfl ?_
  refine g_callVi C cv_X6_say (hR a0 x1 (3 : Int32) x2 x3 h0 m0) q_789 h0 (by omega) rfl rfl (Nat.le_of_ble_eq_true rfl) dX6_partAndFill_5 (fun r1 m2 => ?_)
  refine g_istore C dX6_partAndFill_8 (by decide) rfl ?_
  refine g_aload_n C dX6_partAndFill_10 1 rfl rfl ?_
  refine g_geti C 2 Fx6 h0 (by decide) rfl rfl q_238 dX6_partAndFill_11 ?_
  refine g_if_eq C 21 dX6_partAndFill_14 (by decide) (fun _ => ?_) (fun _ => ?_)
  · refine g_iload C dX6_partAndFill_21 0 rfl ?_
    refine g_aload_n C dX6_partAndFill_23 1 rfl rfl ?_
    refine g_aload_n C dX6_partAndFill_24 1 rfl rfl ?_
    refine g_geti C 3 Fx6 h0 (by decide) rfl rfl q_240 dX6_partAndFill_25 ?_
    refine g_iconst C (1 : Int32) dX6_partAndFill_28 rfl ?_
    refine g_iconst C (1 : Int32) dX6_partAndFill_29 rfl ?_
    refine g_iload_n C dX6_partAndFill_30 4 rfl rfl ?_
    refine g_callVi C cv_X6_say (hR a0 (m2 a0 3) (1 : Int32) (1 : Int32) x3 h0 m2) q_789 h0 (by omega) rfl rfl (Nat.le_of_ble_eq_true rfl) dX6_partAndFill_31 (fun r3 m4 => ?_)
    refine g_iadd C dX6_partAndFill_34 ?_
    refine g_sub [] rfl ?_
    exact s_X6_partAndFill_J35 C Rr hR hd (r1 + r3) m4
  · refine g_iconst C (0 : Int32) dX6_partAndFill_17 rfl ?_
    refine g_goto C 35 dX6_partAndFill_18 (by decide) ?_
    refine g_sub [] rfl ?_
    exact s_X6_partAndFill_J35 C Rr hR hd (0 : Int32) m2
theorem ct_X6_partAndFill {Ω : OT} {R : Nat → Int32 → Int32 → Int32 → Int32 → Mem → Res} {dR : Nat} (hR : ∀ (a0 : Nat) (x1 : Int32) (x2 : Int32) (x3 : Int32) (x4 : Int32) (h0 : tg a0 = 6) (m0 : Mem), Ct Ω yX6_say cX6_say 9 (some .int) dR [.ref (oF Ω a0), .int x1, .int x2, .int x3, .int x4] m0 (R a0 x1 x2 x3 x4 m0)) (hd : 8 ≤ dR) (a0 : Nat) (x1 : Int32) (x2 : Int32) (x3 : Int32) (h0 : tg a0 = 6) (m0 : Mem) : Ct Ω yX6_partAndFill cX6_partAndFill 5 (some .int) (dR + 1) [.ref (oF Ω a0), .int x1, .int x2, .int x3] m0 (f_X6_partAndFill R a0 x1 x2 x3 m0) := by
  refine Ct_of (by decide) (Nat.le_of_ble_eq_true rfl) ?_
  intro K hK C Rr
  subst hK
  exact s_X6_partAndFill C Rr hR hd a0 x1 x2 x3 h0 m0
def X6_say_J19 (R : Nat → Int32 → Int32 → Int32 → Int32 → Mem → Res)   (m0 : Mem) : Res :=
  some ((0 : Int32), m0)
def f_X6_say_B (R : Nat → Int32 → Int32 → Int32 → Int32 → Mem → Res) (a0 : Nat) (x1 : Int32) (x2 : Int32) (x3 : Int32) (x4 : Int32) (m0 : Mem) : Res :=
  cal (f_X6_ownerOf x1 x2 m0) (fun r1 m2 =>
  (if r1 < 0 then
  X6_say_J19 R m2
  else
  (if x4 ≤ (20 : Int32) then
  gd (inb ((r1 * (4 : Int32)) + x2) 28) (
  bnd (bodiesF ((r1 * (4 : Int32)) + x2).toNatClampNeg) (fun y3 =>
  cal (f_X6_note a0 y3 m2) (fun r4 m5 =>
  gd (inb r1 7) (
  bnd (aboveF r1.toNatClampNeg) (fun y6 =>
  bnd (x4 + (1 : Int32)) (fun y7 =>
  (if y3 = (10 : Int32) then
  some (x3 + (m5 a0 5), m5)
  else
  if y3 = (11 : Int32) then
  cal (R a0 (m5 a0 3) (0 : Int32) x3 y7 m5) (fun r9 m10 =>
  some (r9 * (2 : Int32), m10))
  else
  if y3 = (12 : Int32) then
  cal (R a0 (m5 a0 3) (1 : Int32) x3 y7 m5) (fun r12 m13 =>
  some (r12 - (m13 a0 4), m13))
  else
  if y3 = (13 : Int32) then
  cal (f_X6_part a0 x3 m5) (fun r15 m16 =>
  some (r15, m16))
  else
  if y3 = (20 : Int32) then
  cal (R a0 y6 (0 : Int32) x3 y7 m5) (fun r18 m19 =>
  some (r18 - (4 : Int32), m19))
  else
  if y3 = (21 : Int32) then
  cal (f_X6_partAndFill R a0 y6 x3 y7 m5) (fun r21 m22 =>
  some (r21, m22))
  else
  if y3 = (30 : Int32) then
  cal (R a0 y6 (1 : Int32) x3 y7 m5) (fun r24 m25 =>
  some ((0 : Int32) - r24, m25))
  else
  if y3 = (40 : Int32) then
  gd (!((2 : Int32) == 0)) (
  cal (R a0 y6 (2 : Int32) (x3 / (2 : Int32)) y7 m5) (fun r27 m28 =>
  some (r27, m28)))
  else
  if y3 = (50 : Int32) then
  cal (R a0 y6 (0 : Int32) x3 y7 m5) (fun r30 m31 =>
  some (r30 * (3 : Int32), m31))
  else
  if y3 = (51 : Int32) then
  cal (R a0 y6 (2 : Int32) x3 y7 m5) (fun r33 m34 =>
  some (r33 ^^^ (m34 a0 5), m34))
  else
  if y3 = (60 : Int32) then
  cal (R a0 y6 (1 : Int32) (x3 + (1 : Int32)) y7 m5) (fun r36 m37 =>
  some (r36, m37))
  else
  if y3 = (70 : Int32) then
  some ((2 : Int32), m5)
  else
  if y3 = (71 : Int32) then
  cal (R a0 y6 (1 : Int32) x3 y7 m5) (fun r40 m41 =>
  some (r40 + (m41 a0 4), m41))
  else
  some ((0 : Int32), m5))))))))
  else
  X6_say_J19 R m2)))
def f_X6_say : Nat → Nat → Int32 → Int32 → Int32 → Int32 → Mem → Res
  | 0 => fun _ _ _ _ _ _ => none
  | n + 1 => f_X6_say_B (f_X6_say n)
set_option maxHeartbeats 2000000 in
theorem s_X6_say_J19 {K : KT} {R : Nat → Int32 → Int32 → Int32 → Int32 → Mem → Res} {dR : Nat} (C : Cx K cX6_say RX6 9 (dR + 2)) (Rr : Rx K (some .int)) (hR : ∀ (a0 : Nat) (x1 : Int32) (x2 : Int32) (x3 : Int32) (x4 : Int32) (h0 : tg a0 = 6) (m0 : Mem), Ct (kO K) yX6_say cX6_say 9 (some .int) dR [.ref (oF (kO K) a0), .int x1, .int x2, .int x3, .int x4] m0 (R a0 x1 x2 x3 x4 m0)) (hd : 8 ≤ dR)     (m0 : Mem) : G K 19 [] [] m0 (X6_say_J19 R m0) := by
  unfold X6_say_J19
  refine g_iconst C (0 : Int32) dX6_say_19 rfl ?_
  exact g_iret C Rr dX6_say_20
set_option maxHeartbeats 2000000 in
theorem s_X6_say_B {K : KT} {R : Nat → Int32 → Int32 → Int32 → Int32 → Mem → Res} {dR : Nat} (C : Cx K cX6_say RX6 9 (dR + 2)) (Rr : Rx K (some .int)) (hR : ∀ (a0 : Nat) (x1 : Int32) (x2 : Int32) (x3 : Int32) (x4 : Int32) (h0 : tg a0 = 6) (m0 : Mem), Ct (kO K) yX6_say cX6_say 9 (some .int) dR [.ref (oF (kO K) a0), .int x1, .int x2, .int x3, .int x4] m0 (R a0 x1 x2 x3 x4 m0)) (hd : 8 ≤ dR) (a0 : Nat) (x1 : Int32) (x2 : Int32) (x3 : Int32) (x4 : Int32) (h0 : tg a0 = 6) (m0 : Mem) : G K 0 [(0, .ref (kf K a0)), (1, .int x1), (2, .int x2), (3, .int x3), (4, .int x4)] [] m0 (f_X6_say_B R a0 x1 x2 x3 x4 m0) := by
  unfold f_X6_say_B
  refine g_iload_n C dX6_say_0 1 rfl rfl ?_
  refine g_iload_n C dX6_say_1 2 rfl rfl ?_
  refine g_callSi C cv_X6_ownerOf q_794 (ct_X6_ownerOf x1 x2  m0) q_793 (by omega) rfl rfl (Nat.le_of_ble_eq_true rfl) dX6_say_2 (fun r1 m2 => ?_)
  refine g_istore C dX6_say_5 (by decide) rfl ?_
  refine g_iload C dX6_say_7 0 rfl ?_
  refine g_if_lt C 19 dX6_say_9 (by decide) (fun _ => ?_) (fun _ => ?_)
  · refine g_sub [] rfl ?_
    exact s_X6_say_J19 C Rr hR hd m2
  · refine g_iload C dX6_say_12 5 rfl ?_
    refine g_bipush C (20 : Int32) dX6_say_14 rfl ?_
    refine g_icmp_le C 21 dX6_say_16 (by decide) (fun _ => ?_) (fun _ => ?_)
    · refine g_bodies C q_797 dX6_say_21 ?_
      refine g_iload C dX6_say_24 0 rfl ?_
      refine g_iconst C (4 : Int32) dX6_say_26 rfl ?_
      refine g_imul C dX6_say_27 ?_
      refine g_iload_n C dX6_say_28 3 rfl rfl ?_
      refine g_iadd C dX6_say_29 ?_
      refine g_iald1 C dX6_say_30 (fun _ => ?_)
      refine g_bnd (fun y3 => ?_)
      refine g_istore C dX6_say_31 (by decide) rfl ?_
      refine g_aload_n C dX6_say_33 2 rfl rfl ?_
      refine g_iload C dX6_say_34 0 rfl ?_
      refine g_callVv C cv_X6_note (ct_X6_note a0 y3 h0 m2) q_800 h0 (by omega) rfl rfl (Nat.le_of_ble_eq_true rfl) dX6_say_36 (fun r4 m5 => ?_)
      refine g_aboveN C dX6_say_39 ?_
      refine g_iload C dX6_say_42 1 rfl ?_
      refine g_iald0 C dX6_say_44 (fun _ => ?_)
      refine g_bnd (fun y6 => ?_)
      refine g_istore C dX6_say_45 (by decide) rfl ?_
      refine g_iload C dX6_say_47 7 rfl ?_
      refine g_iconst C (1 : Int32) dX6_say_49 rfl ?_
      refine g_iadd C dX6_say_50 ?_
      refine g_bnd (fun y7 => ?_)
      refine g_istore C dX6_say_51 (by decide) rfl ?_
      refine g_iload C dX6_say_53 2 rfl ?_
      refine g_lsw C 168 dX6_say_55 (by decide) rfl (by decide) ?_ (fun e8 => ?_)
      · refine g_iload_n C dX6_say_168 7 rfl rfl ?_
        refine g_aload_n C dX6_say_169 4 rfl rfl ?_
        refine g_geti C 5 Fx6 h0 (by decide) rfl rfl q_242 dX6_say_170 ?_
        refine g_iadd C dX6_say_173 ?_
        exact g_iret C Rr dX6_say_174
      refine g_lsw C 175 dX6_say_55 (by decide) rfl (by decide) ?_ (fun e11 => ?_)
      · refine g_aload_n C dX6_say_175 4 rfl rfl ?_
        refine g_aload_n C dX6_say_176 4 rfl rfl ?_
        refine g_geti C 3 Fx6 h0 (by decide) rfl rfl q_240 dX6_say_177 ?_
        refine g_iconst C (0 : Int32) dX6_say_180 rfl ?_
        refine g_iload_n C dX6_say_181 7 rfl rfl ?_
        refine g_iload C dX6_say_182 0 rfl ?_
        refine g_callVi C cv_X6_say (hR a0 (m5 a0 3) (0 : Int32) x3 y7 h0 m5) q_789 h0 (by omega) rfl rfl (Nat.le_of_ble_eq_true rfl) dX6_say_184 (fun r9 m10 => ?_)
        refine g_iconst C (2 : Int32) dX6_say_187 rfl ?_
        refine g_imul C dX6_say_188 ?_
        exact g_iret C Rr dX6_say_189
      refine g_lsw C 190 dX6_say_55 (by decide) rfl (by decide) ?_ (fun e14 => ?_)
      · refine g_aload_n C dX6_say_190 4 rfl rfl ?_
        refine g_aload_n C dX6_say_191 4 rfl rfl ?_
        refine g_geti C 3 Fx6 h0 (by decide) rfl rfl q_240 dX6_say_192 ?_
        refine g_iconst C (1 : Int32) dX6_say_195 rfl ?_
        refine g_iload_n C dX6_say_196 7 rfl rfl ?_
        refine g_iload C dX6_say_197 0 rfl ?_
        refine g_callVi C cv_X6_say (hR a0 (m5 a0 3) (1 : Int32) x3 y7 h0 m5) q_789 h0 (by omega) rfl rfl (Nat.le_of_ble_eq_true rfl) dX6_say_199 (fun r12 m13 => ?_)
        refine g_aload_n C dX6_say_202 4 rfl rfl ?_
        refine g_geti C 4 Fx6 h0 (by decide) rfl rfl q_241 dX6_say_203 ?_
        refine g_isub C dX6_say_206 ?_
        exact g_iret C Rr dX6_say_207
      refine g_lsw C 208 dX6_say_55 (by decide) rfl (by decide) ?_ (fun e17 => ?_)
      · refine g_aload_n C dX6_say_208 4 rfl rfl ?_
        refine g_iload_n C dX6_say_209 7 rfl rfl ?_
        refine g_callVi C cv_X6_part (ct_X6_part a0 x3 h0 m5) q_804 h0 (by omega) rfl rfl (Nat.le_of_ble_eq_true rfl) dX6_say_210 (fun r15 m16 => ?_)
        exact g_iret C Rr dX6_say_213
      refine g_lsw C 214 dX6_say_55 (by decide) rfl (by decide) ?_ (fun e20 => ?_)
      · refine g_aload_n C dX6_say_214 4 rfl rfl ?_
        refine g_iload C dX6_say_215 1 rfl ?_
        refine g_iconst C (0 : Int32) dX6_say_217 rfl ?_
        refine g_iload_n C dX6_say_218 7 rfl rfl ?_
        refine g_iload C dX6_say_219 0 rfl ?_
        refine g_callVi C cv_X6_say (hR a0 y6 (0 : Int32) x3 y7 h0 m5) q_789 h0 (by omega) rfl rfl (Nat.le_of_ble_eq_true rfl) dX6_say_221 (fun r18 m19 => ?_)
        refine g_iconst C (4 : Int32) dX6_say_224 rfl ?_
        refine g_isub C dX6_say_225 ?_
        exact g_iret C Rr dX6_say_226
      refine g_lsw C 227 dX6_say_55 (by decide) rfl (by decide) ?_ (fun e23 => ?_)
      · refine g_aload_n C dX6_say_227 4 rfl rfl ?_
        refine g_iload C dX6_say_228 1 rfl ?_
        refine g_iload_n C dX6_say_230 7 rfl rfl ?_
        refine g_iload C dX6_say_231 0 rfl ?_
        refine g_callVi C cv_X6_partAndFill (ct_X6_partAndFill hR hd a0 y6 x3 y7 h0 m5) q_808 h0 (by omega) rfl rfl (Nat.le_of_ble_eq_true rfl) dX6_say_233 (fun r21 m22 => ?_)
        exact g_iret C Rr dX6_say_236
      refine g_lsw C 237 dX6_say_55 (by decide) rfl (by decide) ?_ (fun e26 => ?_)
      · refine g_iconst C (0 : Int32) dX6_say_237 rfl ?_
        refine g_aload_n C dX6_say_238 4 rfl rfl ?_
        refine g_iload C dX6_say_239 1 rfl ?_
        refine g_iconst C (1 : Int32) dX6_say_241 rfl ?_
        refine g_iload_n C dX6_say_242 7 rfl rfl ?_
        refine g_iload C dX6_say_243 0 rfl ?_
        refine g_callVi C cv_X6_say (hR a0 y6 (1 : Int32) x3 y7 h0 m5) q_789 h0 (by omega) rfl rfl (Nat.le_of_ble_eq_true rfl) dX6_say_245 (fun r24 m25 => ?_)
        refine g_isub C dX6_say_248 ?_
        exact g_iret C Rr dX6_say_249
      refine g_lsw C 250 dX6_say_55 (by decide) rfl (by decide) ?_ (fun e29 => ?_)
      · refine g_aload_n C dX6_say_250 4 rfl rfl ?_
        refine g_iload C dX6_say_251 1 rfl ?_
        refine g_iconst C (2 : Int32) dX6_say_253 rfl ?_
        refine g_iload_n C dX6_say_254 7 rfl rfl ?_
        refine g_iconst C (2 : Int32) dX6_say_255 rfl ?_
        refine g_idiv C dX6_say_256 (fun _ => ?_)
        refine g_iload C dX6_say_257 0 rfl ?_
        refine g_callVi C cv_X6_say (hR a0 y6 (2 : Int32) (x3 / (2 : Int32)) y7 h0 m5) q_789 h0 (by omega) rfl rfl (Nat.le_of_ble_eq_true rfl) dX6_say_259 (fun r27 m28 => ?_)
        exact g_iret C Rr dX6_say_262
      refine g_lsw C 263 dX6_say_55 (by decide) rfl (by decide) ?_ (fun e32 => ?_)
      · refine g_aload_n C dX6_say_263 4 rfl rfl ?_
        refine g_iload C dX6_say_264 1 rfl ?_
        refine g_iconst C (0 : Int32) dX6_say_266 rfl ?_
        refine g_iload_n C dX6_say_267 7 rfl rfl ?_
        refine g_iload C dX6_say_268 0 rfl ?_
        refine g_callVi C cv_X6_say (hR a0 y6 (0 : Int32) x3 y7 h0 m5) q_789 h0 (by omega) rfl rfl (Nat.le_of_ble_eq_true rfl) dX6_say_270 (fun r30 m31 => ?_)
        refine g_iconst C (3 : Int32) dX6_say_273 rfl ?_
        refine g_imul C dX6_say_274 ?_
        exact g_iret C Rr dX6_say_275
      refine g_lsw C 276 dX6_say_55 (by decide) rfl (by decide) ?_ (fun e35 => ?_)
      · refine g_aload_n C dX6_say_276 4 rfl rfl ?_
        refine g_iload C dX6_say_277 1 rfl ?_
        refine g_iconst C (2 : Int32) dX6_say_279 rfl ?_
        refine g_iload_n C dX6_say_280 7 rfl rfl ?_
        refine g_iload C dX6_say_281 0 rfl ?_
        refine g_callVi C cv_X6_say (hR a0 y6 (2 : Int32) x3 y7 h0 m5) q_789 h0 (by omega) rfl rfl (Nat.le_of_ble_eq_true rfl) dX6_say_283 (fun r33 m34 => ?_)
        refine g_aload_n C dX6_say_286 4 rfl rfl ?_
        refine g_geti C 5 Fx6 h0 (by decide) rfl rfl q_242 dX6_say_287 ?_
        refine g_ixor C dX6_say_290 ?_
        exact g_iret C Rr dX6_say_291
      refine g_lsw C 292 dX6_say_55 (by decide) rfl (by decide) ?_ (fun e38 => ?_)
      · refine g_aload_n C dX6_say_292 4 rfl rfl ?_
        refine g_iload C dX6_say_293 1 rfl ?_
        refine g_iconst C (1 : Int32) dX6_say_295 rfl ?_
        refine g_iload_n C dX6_say_296 7 rfl rfl ?_
        refine g_iconst C (1 : Int32) dX6_say_297 rfl ?_
        refine g_iadd C dX6_say_298 ?_
        refine g_iload C dX6_say_299 0 rfl ?_
        refine g_callVi C cv_X6_say (hR a0 y6 (1 : Int32) (x3 + (1 : Int32)) y7 h0 m5) q_789 h0 (by omega) rfl rfl (Nat.le_of_ble_eq_true rfl) dX6_say_301 (fun r36 m37 => ?_)
        exact g_iret C Rr dX6_say_304
      refine g_lsw C 305 dX6_say_55 (by decide) rfl (by decide) ?_ (fun e39 => ?_)
      · refine g_iconst C (2 : Int32) dX6_say_305 rfl ?_
        exact g_iret C Rr dX6_say_306
      refine g_lsw C 307 dX6_say_55 (by decide) rfl (by decide) ?_ (fun e42 => ?_)
      · refine g_aload_n C dX6_say_307 4 rfl rfl ?_
        refine g_iload C dX6_say_308 1 rfl ?_
        refine g_iconst C (1 : Int32) dX6_say_310 rfl ?_
        refine g_iload_n C dX6_say_311 7 rfl rfl ?_
        refine g_iload C dX6_say_312 0 rfl ?_
        refine g_callVi C cv_X6_say (hR a0 y6 (1 : Int32) x3 y7 h0 m5) q_789 h0 (by omega) rfl rfl (Nat.le_of_ble_eq_true rfl) dX6_say_314 (fun r40 m41 => ?_)
        refine g_aload_n C dX6_say_317 4 rfl rfl ?_
        refine g_geti C 4 Fx6 h0 (by decide) rfl rfl q_241 dX6_say_318 ?_
        refine g_iadd C dX6_say_321 ?_
        exact g_iret C Rr dX6_say_322
      refine g_lswd C 323 [(10 : Int32), (11 : Int32), (12 : Int32), (13 : Int32), (20 : Int32), (21 : Int32), (30 : Int32), (40 : Int32), (50 : Int32), (51 : Int32), (60 : Int32), (70 : Int32), (71 : Int32)] dX6_say_55 (by decide) rfl (by intro v hv; simp only [List.mem_cons, List.not_mem_nil, or_false] at hv; rcases hv with rfl | rfl | rfl | rfl | rfl | rfl | rfl | rfl | rfl | rfl | rfl | rfl | rfl <;> assumption) (by decide) ?_
      refine g_iconst C (0 : Int32) dX6_say_323 rfl ?_
      exact g_iret C Rr dX6_say_324
    · refine g_sub [] rfl ?_
      exact s_X6_say_J19 C Rr hR hd m2
theorem ct_X6_say {Ω : OT} : ∀ (n : Nat) (a0 : Nat) (x1 : Int32) (x2 : Int32) (x3 : Int32) (x4 : Int32) (h0 : tg a0 = 6) (m0 : Mem), Ct Ω yX6_say cX6_say 9 (some .int) (8 + 2 * n) [.ref (oF Ω a0), .int x1, .int x2, .int x3, .int x4] m0 (f_X6_say n a0 x1 x2 x3 x4 m0) := by
  intro n
  induction n with
  | zero => intros; intro r μ' h; cases h
  | succ n ih =>
    intro a0 x1 x2 x3 x4 h0 m0
    refine Ct_of (by decide) (Nat.le_of_ble_eq_true rfl) ?_
    intro K hK C Rr
    subst hK
    exact s_X6_say_B (dR := 8 + 2 * n) C Rr ih (by omega) a0 x1 x2 x3 x4 h0 m0
def f_X6_speak  (a0 : Nat) (a1 : Nat) (x2 : Int32) (x3 : Int32) (x4 : Int32) (m0 : Mem) : Res :=
  bnd (mset m0 a0 3 (m0 a1 0)) (fun m1 =>
  bnd (mset m1 a0 4 (m1 a1 1)) (fun m2 =>
  bnd (mset m2 a0 5 x2) (fun m3 =>
  bnd (mset m3 a0 1 (0 : Int32)) (fun m4 =>
  gd (isb (0 : Int32)) (bnd (mset m4 a0 2 (0 : Int32)) (fun m5 =>
  cal (f_X6_say RF a0 (m5 a0 3) x3 x4 (0 : Int32) m5) (fun r6 m7 =>
  some (r6, m7))))))))
set_option maxHeartbeats 2000000 in
theorem s_X6_speak {K : KT}  (C : Cx K cX6_speak RX6 5 57) (Rr : Rx K (some .int))  (a0 : Nat) (a1 : Nat) (x2 : Int32) (x3 : Int32) (x4 : Int32) (h0 : tg a0 = 6) (h1 : tg a1 = 5) (m0 : Mem) : G K 0 [(0, .ref (kf K a0)), (1, .ref (kf K a1)), (2, .int x2), (3, .int x3), (4, .int x4)] [] m0 (f_X6_speak a0 a1 x2 x3 x4 m0) := by
  unfold f_X6_speak
  refine g_aload_n C dX6_speak_0 0 rfl rfl ?_
  refine g_aload_n C dX6_speak_1 1 rfl rfl ?_
  refine g_geti C 0 Fx5 h1 (by decide) rfl rfl q_49 dX6_speak_2 ?_
  refine g_puti C 3 Fx6 h0 (by decide) rfl rfl rfl rfl q_240 dX6_speak_5 (fun m1 => ?_)
  refine g_aload_n C dX6_speak_8 0 rfl rfl ?_
  refine g_aload_n C dX6_speak_9 1 rfl rfl ?_
  refine g_geti C 1 Fx5 h1 (by decide) rfl rfl q_53 dX6_speak_10 ?_
  refine g_puti C 4 Fx6 h0 (by decide) rfl rfl rfl rfl q_241 dX6_speak_13 (fun m2 => ?_)
  refine g_aload_n C dX6_speak_16 0 rfl rfl ?_
  refine g_iload_n C dX6_speak_17 2 rfl rfl ?_
  refine g_puti C 5 Fx6 h0 (by decide) rfl rfl rfl rfl q_242 dX6_speak_18 (fun m3 => ?_)
  refine g_aload_n C dX6_speak_21 0 rfl rfl ?_
  refine g_iconst C (0 : Int32) dX6_speak_22 rfl ?_
  refine g_puti C 1 Fx6 h0 (by decide) rfl rfl rfl rfl q_236 dX6_speak_23 (fun m4 => ?_)
  refine g_aload_n C dX6_speak_26 0 rfl rfl ?_
  refine g_iconst C (0 : Int32) dX6_speak_27 rfl ?_
  refine g_putZ (k := 2) C Fx6 h0 (by decide) rfl rfl rfl rfl q_238 dX6_speak_28 (fun m5 => ?_)
  refine g_aload_n C dX6_speak_31 0 rfl rfl ?_
  refine g_aload_n C dX6_speak_32 0 rfl rfl ?_
  refine g_geti C 3 Fx6 h0 (by decide) rfl rfl q_240 dX6_speak_33 ?_
  refine g_iload_n C dX6_speak_36 3 rfl rfl ?_
  refine g_iload C dX6_speak_37 4 rfl ?_
  refine g_iconst C (0 : Int32) dX6_speak_39 rfl ?_
  refine g_callVi C cv_X6_say (ct_X6_say RF a0 (m5 a0 3) x3 x4 (0 : Int32) h0 m5) q_789 h0 (by decide) rfl rfl (Nat.le_of_ble_eq_true rfl) dX6_speak_40 (fun r6 m7 => ?_)
  exact g_iret C Rr dX6_speak_43
theorem ct_X6_speak {Ω : OT} (a0 : Nat) (a1 : Nat) (x2 : Int32) (x3 : Int32) (x4 : Int32) (h0 : tg a0 = 6) (h1 : tg a1 = 5) (m0 : Mem) : Ct Ω yX6_speak cX6_speak 5 (some .int) 57 [.ref (oF Ω a0), .ref (oF Ω a1), .int x2, .int x3, .int x4] m0 (f_X6_speak a0 a1 x2 x3 x4 m0) := by
  refine Ct_of (by decide) (Nat.le_of_ble_eq_true rfl) ?_
  intro K hK C Rr
  subst hK
  exact s_X6_speak C Rr  a0 a1 x2 x3 x4 h0 h1 m0
def X7_copyFrom_L120B  (k120 : Nat → Nat → Int32 → Mem → Res) (a0 : Nat) (a1 : Nat) (x2 : Int32) (m0 : Mem) : Res :=
  (if (2 : Int32) ≤ x2 then
  bnd (mset m0 a0 12 (m0 a1 12)) (fun m1 =>
  gd (cpok (0 : Int32) (0 : Int32) (m1 a0 12) 60 60) (bnd (mcpy m1 (a1 + 5) (0 : Int32).toNatClampNeg (a0 + 5) (0 : Int32).toNatClampNeg (m1 a0 12).toNatClampNeg) (fun m2 =>
  bnd (mset m2 a0 14 (m2 a1 14)) (fun m3 =>
  gd (cpok (0 : Int32) (0 : Int32) (m3 a0 14) 24 24) (bnd (mcpy m3 (a1 + 6) (0 : Int32).toNatClampNeg (a0 + 6) (0 : Int32).toNatClampNeg (m3 a0 14).toNatClampNeg) (fun m4 =>
  gd (cpok (0 : Int32) (0 : Int32) (6 : Int32) 6 6) (bnd (mcpy m4 (a1 + 1) (0 : Int32).toNatClampNeg (a0 + 1) (0 : Int32).toNatClampNeg (6 : Int32).toNatClampNeg) (fun m5 =>
  some (0, m5)))))))))
  else
  gd (inb x2 2) (
  gd (inb x2 2) (
  gd (inb x2 2) (
  cal (f_X1_take ((a0 + 4) + 31 + 3 * x2.toNatClampNeg) (((a1 + 4) + 31 + 3 * x2.toNatClampNeg) + 1) 60 (m0 ((a1 + 4) + 31 + 3 * x2.toNatClampNeg) 1) m0) (fun r9 m10 =>
  bnd (x2 + (1 : Int32)) (fun y11 =>
  k120 a0 a1 y11 m10))))))
def X7_copyFrom_L120   : Nat → Nat → Nat → Int32 → Mem → Res
  | 0 => fun _ _ _ _ => none
  | n + 1 => X7_copyFrom_L120B (X7_copyFrom_L120 n)
def X7_copyFrom_L89B  (k89 : Nat → Nat → Int32 → Mem → Res) (a0 : Nat) (a1 : Nat) (x2 : Int32) (m0 : Mem) : Res :=
  (if (m0 a0 6) ≤ x2 then
  X7_copyFrom_L120 FU a0 a1 (0 : Int32) m0
  else
  gd (inb x2 10) (
  gd (inb x2 10) (
  cal (f_X0_copyFrom ((a0 + 3) + 22 + 1 * x2.toNatClampNeg) ((a1 + 3) + 22 + 1 * x2.toNatClampNeg) m0) (fun r3 m4 =>
  bnd (x2 + (1 : Int32)) (fun y5 =>
  k89 a0 a1 y5 m4)))))
def X7_copyFrom_L89   : Nat → Nat → Nat → Int32 → Mem → Res
  | 0 => fun _ _ _ _ => none
  | n + 1 => X7_copyFrom_L89B (X7_copyFrom_L89 n)
def X7_copyFrom_L50B  (k50 : Nat → Nat → Int32 → Mem → Res) (a0 : Nat) (a1 : Nat) (x2 : Int32) (m0 : Mem) : Res :=
  (if (m0 a0 4) ≤ x2 then
  bnd (mset m0 a0 6 (m0 a1 6)) (fun m1 =>
  X7_copyFrom_L89 FU a0 a1 (0 : Int32) m1)
  else
  gd (inb x2 6) (
  gd (inb x2 6) (
  cal (f_X5_copyFrom ((a0 + 2) + 5 + 3 * x2.toNatClampNeg) ((a1 + 2) + 5 + 3 * x2.toNatClampNeg) m0) (fun r4 m5 =>
  bnd (x2 + (1 : Int32)) (fun y6 =>
  k50 a0 a1 y6 m5)))))
def X7_copyFrom_L50   : Nat → Nat → Nat → Int32 → Mem → Res
  | 0 => fun _ _ _ _ => none
  | n + 1 => X7_copyFrom_L50B (X7_copyFrom_L50 n)
def f_X7_copyFrom  (a0 : Nat) (a1 : Nat) (m0 : Mem) : Res :=
  bnd (mset m0 a0 1 (m0 a1 1)) (fun m1 =>
  bnd (mset m1 a0 2 (m1 a1 2)) (fun m2 =>
  bnd (mset m2 a0 7 (m2 a1 7)) (fun m3 =>
  bnd (mset m3 a0 8 (m3 a1 8)) (fun m4 =>
  bnd (mset m4 a0 9 (m4 a1 9)) (fun m5 =>
  bnd (mset m5 a0 4 (m5 a1 4)) (fun m6 =>
  X7_copyFrom_L50 FU a0 a1 (0 : Int32) m6))))))
set_option maxHeartbeats 2000000 in
theorem s_X7_copyFrom_L120B {K : KT}  (C : Cx K cX7_copyFrom RX7 3 2) (Rr : Rx K none)  {k120 : Nat → Nat → Int32 → Mem → Res} (hk120 : ∀ (a0 : Nat) (a1 : Nat) (x2 : Int32) (h0 : tg a0 = 7) (h1 : tg a1 = 7) (m0 : Mem), G K 120 [(0, .ref (kf K a0)), (1, .ref (kf K a1)), (2, .int x2)] [] m0 (k120 a0 a1 x2 m0)) (a0 : Nat) (a1 : Nat) (x2 : Int32) (h0 : tg a0 = 7) (h1 : tg a1 = 7) (m0 : Mem) : G K 120 [(0, .ref (kf K a0)), (1, .ref (kf K a1)), (2, .int x2)] [] m0 (X7_copyFrom_L120B k120 a0 a1 x2 m0) := by
  unfold X7_copyFrom_L120B
  refine g_iload_n C dX7_copyFrom_120 2 rfl rfl ?_
  refine g_iconst C (2 : Int32) dX7_copyFrom_121 rfl ?_
  refine g_icmp_ge C 158 dX7_copyFrom_122 (by decide) (fun _ => ?_) (fun _ => ?_)
  · refine g_aload_n C dX7_copyFrom_158 0 rfl rfl ?_
    refine g_aload_n C dX7_copyFrom_159 1 rfl rfl ?_
    refine g_geti C 12 Fx7 h1 (by decide) rfl rfl q_151 dX7_copyFrom_160 ?_
    refine g_puti C 12 Fx7 h0 (by decide) rfl rfl rfl rfl q_151 dX7_copyFrom_163 (fun m1 => ?_)
    refine g_aload_n C dX7_copyFrom_166 1 rfl rfl ?_
    refine g_getr C 11 5 Fx7 h1 (by decide) rfl rfl q_149 dX7_copyFrom_167 ?_
    refine g_iconst C (0 : Int32) dX7_copyFrom_170 rfl ?_
    refine g_aload_n C dX7_copyFrom_171 0 rfl rfl ?_
    refine g_getr C 11 5 Fx7 h0 (by decide) rfl rfl q_149 dX7_copyFrom_172 ?_
    refine g_iconst C (0 : Int32) dX7_copyFrom_175 rfl ?_
    refine g_aload_n C dX7_copyFrom_176 0 rfl rfl ?_
    refine g_geti C 12 Fx7 h0 (by decide) rfl rfl q_151 dX7_copyFrom_177 ?_
    refine g_copy (na := 60) (nb := 60) C q_728 q_617 q_616 q_18 (cl_7_11 h1) (cl_7_11 h0) (by decide) (Nat.le_of_ble_eq_true rfl) dX7_copyFrom_180 (fun m2 => ?_)
    refine g_aload_n C dX7_copyFrom_183 0 rfl rfl ?_
    refine g_aload_n C dX7_copyFrom_184 1 rfl rfl ?_
    refine g_geti C 14 Fx7 h1 (by decide) rfl rfl q_155 dX7_copyFrom_185 ?_
    refine g_puti C 14 Fx7 h0 (by decide) rfl rfl rfl rfl q_155 dX7_copyFrom_188 (fun m3 => ?_)
    refine g_aload_n C dX7_copyFrom_191 1 rfl rfl ?_
    refine g_getr C 13 6 Fx7 h1 (by decide) rfl rfl q_153 dX7_copyFrom_192 ?_
    refine g_iconst C (0 : Int32) dX7_copyFrom_195 rfl ?_
    refine g_aload_n C dX7_copyFrom_196 0 rfl rfl ?_
    refine g_getr C 13 6 Fx7 h0 (by decide) rfl rfl q_153 dX7_copyFrom_197 ?_
    refine g_iconst C (0 : Int32) dX7_copyFrom_200 rfl ?_
    refine g_aload_n C dX7_copyFrom_201 0 rfl rfl ?_
    refine g_geti C 14 Fx7 h0 (by decide) rfl rfl q_155 dX7_copyFrom_202 ?_
    refine g_copy (na := 24) (nb := 24) C q_728 q_617 q_616 q_18 (cl_7_13 h1) (cl_7_13 h0) (by decide) (Nat.le_of_ble_eq_true rfl) dX7_copyFrom_205 (fun m4 => ?_)
    refine g_aload_n C dX7_copyFrom_208 1 rfl rfl ?_
    refine g_getr C 0 1 Fx7 h1 (by decide) rfl rfl q_125 dX7_copyFrom_209 ?_
    refine g_iconst C (0 : Int32) dX7_copyFrom_212 rfl ?_
    refine g_aload_n C dX7_copyFrom_213 0 rfl rfl ?_
    refine g_getr C 0 1 Fx7 h0 (by decide) rfl rfl q_125 dX7_copyFrom_214 ?_
    refine g_iconst C (0 : Int32) dX7_copyFrom_217 rfl ?_
    refine g_bipush C (6 : Int32) dX7_copyFrom_218 rfl ?_
    refine g_copy (na := 6) (nb := 6) C q_728 q_617 q_616 q_18 (cl_7_0 h1) (cl_7_0 h0) (by decide) (Nat.le_of_ble_eq_true rfl) dX7_copyFrom_220 (fun m5 => ?_)
    exact g_vret C Rr dX7_copyFrom_223
  · refine g_aload_n C dX7_copyFrom_125 0 rfl rfl ?_
    refine g_getr C 10 4 Fx7 h0 (by decide) rfl rfl q_147 dX7_copyFrom_126 ?_
    refine g_iload_n C dX7_copyFrom_129 2 rfl rfl ?_
    refine g_aald12 C (cl_7_10 h0) dX7_copyFrom_130 (fun g6 => ?_)
    refine g_aload_n C dX7_copyFrom_131 1 rfl rfl ?_
    refine g_getr C 10 4 Fx7 h1 (by decide) rfl rfl q_147 dX7_copyFrom_132 ?_
    refine g_iload_n C dX7_copyFrom_135 2 rfl rfl ?_
    refine g_aald12 C (cl_7_10 h1) dX7_copyFrom_136 (fun g7 => ?_)
    refine g_getr C 0 1 Fx1 (ca_12 (cl_7_10 h1) g7) (by decide) rfl rfl q_113 dX7_copyFrom_137 ?_
    refine g_aload_n C dX7_copyFrom_140 1 rfl rfl ?_
    refine g_getr C 10 4 Fx7 h1 (by decide) rfl rfl q_147 dX7_copyFrom_141 ?_
    refine g_iload_n C dX7_copyFrom_144 2 rfl rfl ?_
    refine g_aald12 C (cl_7_10 h1) dX7_copyFrom_145 (fun g8 => ?_)
    refine g_geti C 1 Fx1 (ca_12 (cl_7_10 h1) g8) (by decide) rfl rfl q_115 dX7_copyFrom_146 ?_
    refine g_callVv C cv_X1_take (ct_X1_take ((a0 + 4) + 31 + 3 * x2.toNatClampNeg) (((a1 + 4) + 31 + 3 * x2.toNatClampNeg) + 1) 60 (m0 ((a1 + 4) + 31 + 3 * x2.toNatClampNeg) 1) (ca_12 (cl_7_10 h0) g6) (cl_1_0 (ca_12 (cl_7_10 h1) g7)) m0) q_727 (ca_12 (cl_7_10 h0) g6) (by decide) rfl rfl (Nat.le_of_ble_eq_true rfl) dX7_copyFrom_149 (fun r9 m10 => ?_)
    refine g_iinc (k := 2) C dX7_copyFrom_152 rfl (w := (1 : Int32)) rfl (by decide) (fun v_ => [(2, .int v_), (0, .ref (kf K a0)), (1, .ref (kf K a1))]) (fun _ => rfl) (fun y11 => ?_)
    refine g_goto C 120 dX7_copyFrom_155 (by decide) ?_
    refine g_sub [1, 2, 0] rfl ?_
    exact hk120 a0 a1 y11 h0 h1 m10
theorem s_X7_copyFrom_L120 {K : KT}  (C : Cx K cX7_copyFrom RX7 3 2) (Rr : Rx K none)    : ∀ (n : Nat) (a0 : Nat) (a1 : Nat) (x2 : Int32) (h0 : tg a0 = 7) (h1 : tg a1 = 7) (m0 : Mem), G K 120 [(0, .ref (kf K a0)), (1, .ref (kf K a1)), (2, .int x2)] [] m0 (X7_copyFrom_L120 n a0 a1 x2 m0) := by
  intro n
  induction n with
  | zero => intros; exact g_none
  | succ n ih =>
    intro a0 a1 x2 h0 h1 m0
    exact s_X7_copyFrom_L120B C Rr  ih a0 a1 x2 h0 h1 m0
set_option maxHeartbeats 2000000 in
theorem s_X7_copyFrom_L89B {K : KT}  (C : Cx K cX7_copyFrom RX7 3 2) (Rr : Rx K none)  {k89 : Nat → Nat → Int32 → Mem → Res} (hk89 : ∀ (a0 : Nat) (a1 : Nat) (x2 : Int32) (h0 : tg a0 = 7) (h1 : tg a1 = 7) (m0 : Mem), G K 89 [(0, .ref (kf K a0)), (1, .ref (kf K a1)), (2, .int x2)] [] m0 (k89 a0 a1 x2 m0)) (a0 : Nat) (a1 : Nat) (x2 : Int32) (h0 : tg a0 = 7) (h1 : tg a1 = 7) (m0 : Mem) : G K 89 [(0, .ref (kf K a0)), (1, .ref (kf K a1)), (2, .int x2)] [] m0 (X7_copyFrom_L89B k89 a0 a1 x2 m0) := by
  unfold X7_copyFrom_L89B
  refine g_iload_n C dX7_copyFrom_89 2 rfl rfl ?_
  refine g_aload_n C dX7_copyFrom_90 0 rfl rfl ?_
  refine g_geti C 6 Fx7 h0 (by decide) rfl rfl q_139 dX7_copyFrom_91 ?_
  refine g_icmp_ge C 118 dX7_copyFrom_94 (by decide) (fun _ => ?_) (fun _ => ?_)
  · refine g_iconst C (0 : Int32) dX7_copyFrom_118 rfl ?_
    refine g_istore_n C dX7_copyFrom_119 rfl (by decide) rfl ?_
    refine g_sub [1, 2, 0] rfl ?_
    exact s_X7_copyFrom_L120 C Rr FU a0 a1 (0 : Int32) h0 h1 m0
  · refine g_aload_n C dX7_copyFrom_97 0 rfl rfl ?_
    refine g_getr C 5 3 Fx7 h0 (by decide) rfl rfl q_137 dX7_copyFrom_98 ?_
    refine g_iload_n C dX7_copyFrom_101 2 rfl rfl ?_
    refine g_aald11 C (cl_7_5 h0) dX7_copyFrom_102 (fun g1 => ?_)
    refine g_aload_n C dX7_copyFrom_103 1 rfl rfl ?_
    refine g_getr C 5 3 Fx7 h1 (by decide) rfl rfl q_137 dX7_copyFrom_104 ?_
    refine g_iload_n C dX7_copyFrom_107 2 rfl rfl ?_
    refine g_aald11 C (cl_7_5 h1) dX7_copyFrom_108 (fun g2 => ?_)
    refine g_callVv C cv_X0_copyFrom (ct_X0_copyFrom ((a0 + 3) + 22 + 1 * x2.toNatClampNeg) ((a1 + 3) + 22 + 1 * x2.toNatClampNeg) (ca_11 (cl_7_5 h0) g1) (ca_11 (cl_7_5 h1) g2) m0) q_723 (ca_11 (cl_7_5 h0) g1) (by decide) rfl rfl (Nat.le_of_ble_eq_true rfl) dX7_copyFrom_109 (fun r3 m4 => ?_)
    refine g_iinc (k := 2) C dX7_copyFrom_112 rfl (w := (1 : Int32)) rfl (by decide) (fun v_ => [(2, .int v_), (0, .ref (kf K a0)), (1, .ref (kf K a1))]) (fun _ => rfl) (fun y5 => ?_)
    refine g_goto C 89 dX7_copyFrom_115 (by decide) ?_
    refine g_sub [1, 2, 0] rfl ?_
    exact hk89 a0 a1 y5 h0 h1 m4
theorem s_X7_copyFrom_L89 {K : KT}  (C : Cx K cX7_copyFrom RX7 3 2) (Rr : Rx K none)    : ∀ (n : Nat) (a0 : Nat) (a1 : Nat) (x2 : Int32) (h0 : tg a0 = 7) (h1 : tg a1 = 7) (m0 : Mem), G K 89 [(0, .ref (kf K a0)), (1, .ref (kf K a1)), (2, .int x2)] [] m0 (X7_copyFrom_L89 n a0 a1 x2 m0) := by
  intro n
  induction n with
  | zero => intros; exact g_none
  | succ n ih =>
    intro a0 a1 x2 h0 h1 m0
    exact s_X7_copyFrom_L89B C Rr  ih a0 a1 x2 h0 h1 m0
set_option maxHeartbeats 2000000 in
theorem s_X7_copyFrom_L50B {K : KT}  (C : Cx K cX7_copyFrom RX7 3 2) (Rr : Rx K none)  {k50 : Nat → Nat → Int32 → Mem → Res} (hk50 : ∀ (a0 : Nat) (a1 : Nat) (x2 : Int32) (h0 : tg a0 = 7) (h1 : tg a1 = 7) (m0 : Mem), G K 50 [(0, .ref (kf K a0)), (1, .ref (kf K a1)), (2, .int x2)] [] m0 (k50 a0 a1 x2 m0)) (a0 : Nat) (a1 : Nat) (x2 : Int32) (h0 : tg a0 = 7) (h1 : tg a1 = 7) (m0 : Mem) : G K 50 [(0, .ref (kf K a0)), (1, .ref (kf K a1)), (2, .int x2)] [] m0 (X7_copyFrom_L50B k50 a0 a1 x2 m0) := by
  unfold X7_copyFrom_L50B
  refine g_iload_n C dX7_copyFrom_50 2 rfl rfl ?_
  refine g_aload_n C dX7_copyFrom_51 0 rfl rfl ?_
  refine g_geti C 4 Fx7 h0 (by decide) rfl rfl q_134 dX7_copyFrom_52 ?_
  refine g_icmp_ge C 79 dX7_copyFrom_55 (by decide) (fun _ => ?_) (fun _ => ?_)
  · refine g_aload_n C dX7_copyFrom_79 0 rfl rfl ?_
    refine g_aload_n C dX7_copyFrom_80 1 rfl rfl ?_
    refine g_geti C 6 Fx7 h1 (by decide) rfl rfl q_139 dX7_copyFrom_81 ?_
    refine g_puti C 6 Fx7 h0 (by decide) rfl rfl rfl rfl q_139 dX7_copyFrom_84 (fun m1 => ?_)
    refine g_iconst C (0 : Int32) dX7_copyFrom_87 rfl ?_
    refine g_istore_n C dX7_copyFrom_88 rfl (by decide) rfl ?_
    refine g_sub [1, 2, 0] rfl ?_
    exact s_X7_copyFrom_L89 C Rr FU a0 a1 (0 : Int32) h0 h1 m1
  · refine g_aload_n C dX7_copyFrom_58 0 rfl rfl ?_
    refine g_getr C 3 2 Fx7 h0 (by decide) rfl rfl q_131 dX7_copyFrom_59 ?_
    refine g_iload_n C dX7_copyFrom_62 2 rfl rfl ?_
    refine g_aald10 C (cl_7_3 h0) dX7_copyFrom_63 (fun g2 => ?_)
    refine g_aload_n C dX7_copyFrom_64 1 rfl rfl ?_
    refine g_getr C 3 2 Fx7 h1 (by decide) rfl rfl q_131 dX7_copyFrom_65 ?_
    refine g_iload_n C dX7_copyFrom_68 2 rfl rfl ?_
    refine g_aald10 C (cl_7_3 h1) dX7_copyFrom_69 (fun g3 => ?_)
    refine g_callVv C cv_X5_copyFrom (ct_X5_copyFrom ((a0 + 2) + 5 + 3 * x2.toNatClampNeg) ((a1 + 2) + 5 + 3 * x2.toNatClampNeg) (ca_10 (cl_7_3 h0) g2) (ca_10 (cl_7_3 h1) g3) m0) q_718 (ca_10 (cl_7_3 h0) g2) (by decide) rfl rfl (Nat.le_of_ble_eq_true rfl) dX7_copyFrom_70 (fun r4 m5 => ?_)
    refine g_iinc (k := 2) C dX7_copyFrom_73 rfl (w := (1 : Int32)) rfl (by decide) (fun v_ => [(2, .int v_), (0, .ref (kf K a0)), (1, .ref (kf K a1))]) (fun _ => rfl) (fun y6 => ?_)
    refine g_goto C 50 dX7_copyFrom_76 (by decide) ?_
    refine g_sub [1, 2, 0] rfl ?_
    exact hk50 a0 a1 y6 h0 h1 m5
theorem s_X7_copyFrom_L50 {K : KT}  (C : Cx K cX7_copyFrom RX7 3 2) (Rr : Rx K none)    : ∀ (n : Nat) (a0 : Nat) (a1 : Nat) (x2 : Int32) (h0 : tg a0 = 7) (h1 : tg a1 = 7) (m0 : Mem), G K 50 [(0, .ref (kf K a0)), (1, .ref (kf K a1)), (2, .int x2)] [] m0 (X7_copyFrom_L50 n a0 a1 x2 m0) := by
  intro n
  induction n with
  | zero => intros; exact g_none
  | succ n ih =>
    intro a0 a1 x2 h0 h1 m0
    exact s_X7_copyFrom_L50B C Rr  ih a0 a1 x2 h0 h1 m0
set_option maxHeartbeats 2000000 in
theorem s_X7_copyFrom {K : KT}  (C : Cx K cX7_copyFrom RX7 3 2) (Rr : Rx K none)  (a0 : Nat) (a1 : Nat) (h0 : tg a0 = 7) (h1 : tg a1 = 7) (m0 : Mem) : G K 0 [(0, .ref (kf K a0)), (1, .ref (kf K a1))] [] m0 (f_X7_copyFrom a0 a1 m0) := by
  unfold f_X7_copyFrom
  refine g_aload_n C dX7_copyFrom_0 0 rfl rfl ?_
  refine g_aload_n C dX7_copyFrom_1 1 rfl rfl ?_
  refine g_geti C 1 Fx7 h1 (by decide) rfl rfl q_127 dX7_copyFrom_2 ?_
  refine g_puti C 1 Fx7 h0 (by decide) rfl rfl rfl rfl q_127 dX7_copyFrom_5 (fun m1 => ?_)
  refine g_aload_n C dX7_copyFrom_8 0 rfl rfl ?_
  refine g_aload_n C dX7_copyFrom_9 1 rfl rfl ?_
  refine g_geti C 2 Fx7 h1 (by decide) rfl rfl q_129 dX7_copyFrom_10 ?_
  refine g_puti C 2 Fx7 h0 (by decide) rfl rfl rfl rfl q_129 dX7_copyFrom_13 (fun m2 => ?_)
  refine g_aload_n C dX7_copyFrom_16 0 rfl rfl ?_
  refine g_aload_n C dX7_copyFrom_17 1 rfl rfl ?_
  refine g_geti C 7 Fx7 h1 (by decide) rfl rfl q_141 dX7_copyFrom_18 ?_
  refine g_puti C 7 Fx7 h0 (by decide) rfl rfl rfl rfl q_141 dX7_copyFrom_21 (fun m3 => ?_)
  refine g_aload_n C dX7_copyFrom_24 0 rfl rfl ?_
  refine g_aload_n C dX7_copyFrom_25 1 rfl rfl ?_
  refine g_geti C 8 Fx7 h1 (by decide) rfl rfl q_143 dX7_copyFrom_26 ?_
  refine g_puti C 8 Fx7 h0 (by decide) rfl rfl rfl rfl q_143 dX7_copyFrom_29 (fun m4 => ?_)
  refine g_aload_n C dX7_copyFrom_32 0 rfl rfl ?_
  refine g_aload_n C dX7_copyFrom_33 1 rfl rfl ?_
  refine g_geti C 9 Fx7 h1 (by decide) rfl rfl q_145 dX7_copyFrom_34 ?_
  refine g_puti C 9 Fx7 h0 (by decide) rfl rfl rfl rfl q_145 dX7_copyFrom_37 (fun m5 => ?_)
  refine g_aload_n C dX7_copyFrom_40 0 rfl rfl ?_
  refine g_aload_n C dX7_copyFrom_41 1 rfl rfl ?_
  refine g_geti C 4 Fx7 h1 (by decide) rfl rfl q_134 dX7_copyFrom_42 ?_
  refine g_puti C 4 Fx7 h0 (by decide) rfl rfl rfl rfl q_134 dX7_copyFrom_45 (fun m6 => ?_)
  refine g_iconst C (0 : Int32) dX7_copyFrom_48 rfl ?_
  refine g_istore_n C dX7_copyFrom_49 rfl (by decide) rfl ?_
  refine g_sub [1, 2, 0] rfl ?_
  exact s_X7_copyFrom_L50 C Rr FU a0 a1 (0 : Int32) h0 h1 m6
theorem ct_X7_copyFrom {Ω : OT} (a0 : Nat) (a1 : Nat) (h0 : tg a0 = 7) (h1 : tg a1 = 7) (m0 : Mem) : Ct Ω yX7_copyFrom cX7_copyFrom 3 none 2 [.ref (oF Ω a0), .ref (oF Ω a1)] m0 (f_X7_copyFrom a0 a1 m0) := by
  refine Ct_of (by decide) (Nat.le_of_ble_eq_true rfl) ?_
  intro K hK C Rr
  subst hK
  exact s_X7_copyFrom C Rr  a0 a1 h0 h1 m0
def f_X7_hasShop  (a0 : Nat) (x1 : Int32) (m0 : Mem) : Res :=
  cal (f_X8_within x1 (0 : Int32) ((m0 a0 4) - (1 : Int32)) m0) (fun r1 m2 =>
  gd (isb r1) (some (r1, m2)))
set_option maxHeartbeats 2000000 in
theorem s_X7_hasShop {K : KT}  (C : Cx K cX7_hasShop RX7 2 2) (Rr : Rx K (some .boolean))  (a0 : Nat) (x1 : Int32) (h0 : tg a0 = 7) (m0 : Mem) : G K 0 [(0, .ref (kf K a0)), (1, .int x1)] [] m0 (f_X7_hasShop a0 x1 m0) := by
  unfold f_X7_hasShop
  refine g_iload_n C dX7_hasShop_0 1 rfl rfl ?_
  refine g_iconst C (0 : Int32) dX7_hasShop_1 rfl ?_
  refine g_aload_n C dX7_hasShop_2 0 rfl rfl ?_
  refine g_geti C 4 Fx7 h0 (by decide) rfl rfl q_134 dX7_hasShop_3 ?_
  refine g_iconst C (1 : Int32) dX7_hasShop_6 rfl ?_
  refine g_isub C dX7_hasShop_7 ?_
  refine g_callNi C cv_X8_within q_342 (ct_X8_within x1 (0 : Int32) ((m0 a0 4) - (1 : Int32))  m0) (by decide +kernel) (by decide) rfl rfl (Nat.le_of_ble_eq_true rfl) dX7_hasShop_8 (fun r1 m2 => ?_)
  exact g_zret C Rr dX7_hasShop_11
theorem ct_X7_hasShop {Ω : OT} (a0 : Nat) (x1 : Int32) (h0 : tg a0 = 7) (m0 : Mem) : Ct Ω yX7_hasShop cX7_hasShop 2 (some .boolean) 2 [.ref (oF Ω a0), .int x1] m0 (f_X7_hasShop a0 x1 m0) := by
  refine Ct_of (by decide) (Nat.le_of_ble_eq_true rfl) ?_
  intro K hK C Rr
  subst hK
  exact s_X7_hasShop C Rr  a0 x1 h0 m0
def f_X7_welcome  (a0 : Nat) (x1 : Int32) (x2 : Int32) (x3 : Int32) (m0 : Mem) : Res :=
  gd (inb (m0 a0 6) 10) (
  bnd (mset m0 ((a0 + 3) + 22 + 1 * (m0 a0 6).toNatClampNeg) 0 x1) (fun m2 =>
  gd (!((10 : Int32) == 0)) (
  bnd (mset m2 ((a0 + 3) + 22 + 1 * (m0 a0 6).toNatClampNeg) 1 (x2 / (10 : Int32))) (fun m3 =>
  gd (!((10 : Int32) == 0)) (
  bnd (mset m3 ((a0 + 3) + 22 + 1 * (m0 a0 6).toNatClampNeg) 2 (irm x2 (10 : Int32))) (fun m4 =>
  bnd (mset m4 ((a0 + 3) + 22 + 1 * (m0 a0 6).toNatClampNeg) 3 x3) (fun m5 =>
  bnd (mset m5 a0 6 ((m5 a0 6) + (1 : Int32))) (fun m6 =>
  some (0, m6)))))))))
set_option maxHeartbeats 2000000 in
theorem s_X7_welcome {K : KT}  (C : Cx K cX7_welcome RX7 5 1) (Rr : Rx K none)  (a0 : Nat) (x1 : Int32) (x2 : Int32) (x3 : Int32) (h0 : tg a0 = 7) (m0 : Mem) : G K 0 [(0, .ref (kf K a0)), (1, .int x1), (2, .int x2), (3, .int x3)] [] m0 (f_X7_welcome a0 x1 x2 x3 m0) := by
  unfold f_X7_welcome
  refine g_aload_n C dX7_welcome_0 0 rfl rfl ?_
  refine g_getr C 5 3 Fx7 h0 (by decide) rfl rfl q_137 dX7_welcome_1 ?_
  refine g_aload_n C dX7_welcome_4 0 rfl rfl ?_
  refine g_geti C 6 Fx7 h0 (by decide) rfl rfl q_139 dX7_welcome_5 ?_
  refine g_aald11 C (cl_7_5 h0) dX7_welcome_8 (fun g1 => ?_)
  refine g_astore C dX7_welcome_9 (by decide) rfl ?_
  refine g_aload C dX7_welcome_11 0 rfl ?_
  refine g_iload_n C dX7_welcome_13 2 rfl rfl ?_
  refine g_puti C 0 Fx0 (ca_11 (cl_7_5 h0) g1) (by decide) rfl rfl rfl rfl q_87 dX7_welcome_14 (fun m2 => ?_)
  refine g_aload C dX7_welcome_17 0 rfl ?_
  refine g_iload_n C dX7_welcome_19 3 rfl rfl ?_
  refine g_bipush C (10 : Int32) dX7_welcome_20 rfl ?_
  refine g_idiv C dX7_welcome_22 (fun _ => ?_)
  refine g_puti C 1 Fx0 (ca_11 (cl_7_5 h0) g1) (by decide) rfl rfl rfl rfl q_90 dX7_welcome_23 (fun m3 => ?_)
  refine g_aload C dX7_welcome_26 0 rfl ?_
  refine g_iload_n C dX7_welcome_28 3 rfl rfl ?_
  refine g_bipush C (10 : Int32) dX7_welcome_29 rfl ?_
  refine g_irem C dX7_welcome_31 (fun _ => ?_)
  refine g_puti C 2 Fx0 (ca_11 (cl_7_5 h0) g1) (by decide) rfl rfl rfl rfl q_93 dX7_welcome_32 (fun m4 => ?_)
  refine g_aload C dX7_welcome_35 0 rfl ?_
  refine g_iload_n C dX7_welcome_37 4 rfl rfl ?_
  refine g_puti C 3 Fx0 (ca_11 (cl_7_5 h0) g1) (by decide) rfl rfl rfl rfl q_96 dX7_welcome_38 (fun m5 => ?_)
  refine g_aload_n C dX7_welcome_41 1 rfl rfl ?_
  refine g_dup C dX7_welcome_42 rfl ?_
  refine g_geti C 6 Fx7 h0 (by decide) rfl rfl q_139 dX7_welcome_43 ?_
  refine g_iconst C (1 : Int32) dX7_welcome_46 rfl ?_
  refine g_iadd C dX7_welcome_47 ?_
  refine g_puti C 6 Fx7 h0 (by decide) rfl rfl rfl rfl q_139 dX7_welcome_48 (fun m6 => ?_)
  exact g_vret C Rr dX7_welcome_51
theorem ct_X7_welcome {Ω : OT} (a0 : Nat) (x1 : Int32) (x2 : Int32) (x3 : Int32) (h0 : tg a0 = 7) (m0 : Mem) : Ct Ω yX7_welcome cX7_welcome 5 none 1 [.ref (oF Ω a0), .int x1, .int x2, .int x3] m0 (f_X7_welcome a0 x1 x2 x3 m0) := by
  refine Ct_of (by decide) (Nat.le_of_ble_eq_true rfl) ?_
  intro K hK C Rr
  subst hK
  exact s_X7_welcome C Rr  a0 x1 x2 x3 h0 m0
def X7_mayGoods_J25  (k4 : Nat → Int32 → Int32 → Int32 → Mem → Res) (a0 : Nat) (x1 : Int32) (x2 : Int32) (x3 : Int32) (m0 : Mem) : Res :=
  bnd (x3 + (1 : Int32)) (fun y1 =>
  k4 a0 x1 x2 y1 m0)
def X7_mayGoods_L4B  (k4 : Nat → Int32 → Int32 → Int32 → Mem → Res) (a0 : Nat) (x1 : Int32) (x2 : Int32) (x3 : Int32) (m0 : Mem) : Res :=
  (if (6 : Int32) ≤ x3 then
  some (x2, m0)
  else
  cal (f_X7_maySell a0 x1 x3 m0) (fun r1 m2 =>
  (if r1 = 0 then
  X7_mayGoods_J25 k4 a0 x1 x2 x3 m2
  else
  bnd (x2 ||| (isl (1 : Int32) x3)) (fun y3 =>
  X7_mayGoods_J25 k4 a0 x1 y3 x3 m2))))
def X7_mayGoods_L4   : Nat → Nat → Int32 → Int32 → Int32 → Mem → Res
  | 0 => fun _ _ _ _ _ => none
  | n + 1 => X7_mayGoods_L4B (X7_mayGoods_L4 n)
def f_X7_mayGoods  (a0 : Nat) (x1 : Int32) (m0 : Mem) : Res :=
  X7_mayGoods_L4 FU a0 x1 (0 : Int32) (0 : Int32) m0
set_option maxHeartbeats 2000000 in
theorem s_X7_mayGoods_J25 {K : KT}  (C : Cx K cX7_mayGoods RX7 4 3) (Rr : Rx K (some .int))  {k4 : Nat → Int32 → Int32 → Int32 → Mem → Res} (hk4 : ∀ (a0 : Nat) (x1 : Int32) (x2 : Int32) (x3 : Int32) (h0 : tg a0 = 7) (m0 : Mem), G K 4 [(0, .ref (kf K a0)), (1, .int x1), (2, .int x2), (3, .int x3)] [] m0 (k4 a0 x1 x2 x3 m0)) (a0 : Nat) (x1 : Int32) (x2 : Int32) (x3 : Int32) (h0 : tg a0 = 7) (m0 : Mem) : G K 25 [(0, .ref (kf K a0)), (1, .int x1), (2, .int x2), (3, .int x3)] [] m0 (X7_mayGoods_J25 k4 a0 x1 x2 x3 m0) := by
  unfold X7_mayGoods_J25
  refine g_iinc (k := 3) C dX7_mayGoods_25 rfl (w := (1 : Int32)) rfl (by decide) (fun v_ => [(3, .int v_), (0, .ref (kf K a0)), (1, .int x1), (2, .int x2)]) (fun _ => rfl) (fun y1 => ?_)
  refine g_goto C 4 dX7_mayGoods_28 (by decide) ?_
  refine g_sub [1, 2, 3, 0] rfl ?_
  exact hk4 a0 x1 x2 y1 h0 m0
set_option maxHeartbeats 2000000 in
theorem s_X7_mayGoods_L4B {K : KT}  (C : Cx K cX7_mayGoods RX7 4 3) (Rr : Rx K (some .int))  {k4 : Nat → Int32 → Int32 → Int32 → Mem → Res} (hk4 : ∀ (a0 : Nat) (x1 : Int32) (x2 : Int32) (x3 : Int32) (h0 : tg a0 = 7) (m0 : Mem), G K 4 [(0, .ref (kf K a0)), (1, .int x1), (2, .int x2), (3, .int x3)] [] m0 (k4 a0 x1 x2 x3 m0)) (a0 : Nat) (x1 : Int32) (x2 : Int32) (x3 : Int32) (h0 : tg a0 = 7) (m0 : Mem) : G K 4 [(0, .ref (kf K a0)), (1, .int x1), (2, .int x2), (3, .int x3)] [] m0 (X7_mayGoods_L4B k4 a0 x1 x2 x3 m0) := by
  unfold X7_mayGoods_L4B
  refine g_iload_n C dX7_mayGoods_4 3 rfl rfl ?_
  refine g_bipush C (6 : Int32) dX7_mayGoods_5 rfl ?_
  refine g_icmp_ge C 31 dX7_mayGoods_7 (by decide) (fun _ => ?_) (fun _ => ?_)
  · refine g_iload_n C dX7_mayGoods_31 2 rfl rfl ?_
    exact g_iret C Rr dX7_mayGoods_32
  · refine g_aload_n C dX7_mayGoods_10 0 rfl rfl ?_
    refine g_iload_n C dX7_mayGoods_11 1 rfl rfl ?_
    refine g_iload_n C dX7_mayGoods_12 3 rfl rfl ?_
    refine g_callVi C cv_X7_maySell (ct_X7_maySell a0 x1 x3 h0 m0) q_379 h0 (by decide) rfl rfl (Nat.le_of_ble_eq_true rfl) dX7_mayGoods_13 (fun r1 m2 => ?_)
    refine g_if_eq C 25 dX7_mayGoods_16 (by decide) (fun _ => ?_) (fun _ => ?_)
    · refine g_sub [0, 1, 2, 3] rfl ?_
      exact s_X7_mayGoods_J25 C Rr hk4 a0 x1 x2 x3 h0 m2
    · refine g_iload_n C dX7_mayGoods_19 2 rfl rfl ?_
      refine g_iconst C (1 : Int32) dX7_mayGoods_20 rfl ?_
      refine g_iload_n C dX7_mayGoods_21 3 rfl rfl ?_
      refine g_ishl C dX7_mayGoods_22 ?_
      refine g_ior C dX7_mayGoods_23 ?_
      refine g_bnd (fun y3 => ?_)
      refine g_istore_n C dX7_mayGoods_24 rfl (by decide) rfl ?_
      refine g_sub [1, 2, 0, 3] rfl ?_
      exact s_X7_mayGoods_J25 C Rr hk4 a0 x1 y3 x3 h0 m2
theorem s_X7_mayGoods_L4 {K : KT}  (C : Cx K cX7_mayGoods RX7 4 3) (Rr : Rx K (some .int))    : ∀ (n : Nat) (a0 : Nat) (x1 : Int32) (x2 : Int32) (x3 : Int32) (h0 : tg a0 = 7) (m0 : Mem), G K 4 [(0, .ref (kf K a0)), (1, .int x1), (2, .int x2), (3, .int x3)] [] m0 (X7_mayGoods_L4 n a0 x1 x2 x3 m0) := by
  intro n
  induction n with
  | zero => intros; exact g_none
  | succ n ih =>
    intro a0 x1 x2 x3 h0 m0
    exact s_X7_mayGoods_L4B C Rr  ih a0 x1 x2 x3 h0 m0
set_option maxHeartbeats 2000000 in
theorem s_X7_mayGoods {K : KT}  (C : Cx K cX7_mayGoods RX7 4 3) (Rr : Rx K (some .int))  (a0 : Nat) (x1 : Int32) (h0 : tg a0 = 7) (m0 : Mem) : G K 0 [(0, .ref (kf K a0)), (1, .int x1)] [] m0 (f_X7_mayGoods a0 x1 m0) := by
  unfold f_X7_mayGoods
  refine g_iconst C (0 : Int32) dX7_mayGoods_0 rfl ?_
  refine g_istore_n C dX7_mayGoods_1 rfl (by decide) rfl ?_
  refine g_iconst C (0 : Int32) dX7_mayGoods_2 rfl ?_
  refine g_istore_n C dX7_mayGoods_3 rfl (by decide) rfl ?_
  refine g_sub [2, 3, 1, 0] rfl ?_
  exact s_X7_mayGoods_L4 C Rr FU a0 x1 (0 : Int32) (0 : Int32) h0 m0
theorem ct_X7_mayGoods {Ω : OT} (a0 : Nat) (x1 : Int32) (h0 : tg a0 = 7) (m0 : Mem) : Ct Ω yX7_mayGoods cX7_mayGoods 4 (some .int) 3 [.ref (oF Ω a0), .int x1] m0 (f_X7_mayGoods a0 x1 m0) := by
  refine Ct_of (by decide) (Nat.le_of_ble_eq_true rfl) ?_
  intro K hK C Rr
  subst hK
  exact s_X7_mayGoods C Rr  a0 x1 h0 m0
def X7_factOf_J74   (xs0 : Int32) (m0 : Mem) : Res :=
  some (xs0, m0)
def f_X7_factOf  (a0 : Nat) (x1 : Int32) (x2 : Int32) (m0 : Mem) : Res :=
  gd (inb x1 6) (
  (if x2 = 0 then
  some (m0 ((a0 + 2) + 5 + 3 * x1.toNatClampNeg) 0, m0)
  else
  (if x2 = (1 : Int32) then
  some (m0 ((a0 + 2) + 5 + 3 * x1.toNatClampNeg) 1, m0)
  else
  (if x2 = (2 : Int32) then
  some (m0 ((a0 + 2) + 5 + 3 * x1.toNatClampNeg) 2, m0)
  else
  (if (9 : Int32) ≤ x2 then
  (if (15 : Int32) ≤ x2 then
  cal (f_X7_mayGoods a0 x1 m0) (fun r2 m3 =>
  X7_factOf_J74 r2 m3)
  else
  gd (inb (x2 - (9 : Int32)) 6) (
  X7_factOf_J74 (m0 (((a0 + 2) + 5 + 3 * x1.toNatClampNeg) + 2) (x2 - (9 : Int32)).toNatClampNeg) m0))
  else
  gd (inb (x2 - (3 : Int32)) 6) (
  some (m0 (((a0 + 2) + 5 + 3 * x1.toNatClampNeg) + 1) (x2 - (3 : Int32)).toNatClampNeg, m0)))))))
set_option maxHeartbeats 2000000 in
theorem s_X7_factOf_J74 {K : KT}  (C : Cx K cX7_factOf RX7 4 4) (Rr : Rx K (some .int))    (xs0 : Int32)  (m0 : Mem) : G K 74 [] [.int xs0] m0 (X7_factOf_J74 xs0 m0) := by
  unfold X7_factOf_J74
  exact g_iret C Rr dX7_factOf_74
set_option maxHeartbeats 2000000 in
theorem s_X7_factOf {K : KT}  (C : Cx K cX7_factOf RX7 4 4) (Rr : Rx K (some .int))  (a0 : Nat) (x1 : Int32) (x2 : Int32) (h0 : tg a0 = 7) (m0 : Mem) : G K 0 [(0, .ref (kf K a0)), (1, .int x1), (2, .int x2)] [] m0 (f_X7_factOf a0 x1 x2 m0) := by
  unfold f_X7_factOf
  refine g_aload_n C dX7_factOf_0 0 rfl rfl ?_
  refine g_getr C 3 2 Fx7 h0 (by decide) rfl rfl q_131 dX7_factOf_1 ?_
  refine g_iload_n C dX7_factOf_4 1 rfl rfl ?_
  refine g_aald10 C (cl_7_3 h0) dX7_factOf_5 (fun g1 => ?_)
  refine g_astore_n C dX7_factOf_6 rfl (by decide) rfl ?_
  refine g_iload_n C dX7_factOf_7 3 rfl rfl ?_
  refine g_if_ne C 16 dX7_factOf_8 (by decide) (fun _ => ?_) (fun _ => ?_)
  · refine g_iload_n C dX7_factOf_16 3 rfl rfl ?_
    refine g_iconst C (1 : Int32) dX7_factOf_17 rfl ?_
    refine g_icmp_ne C 26 dX7_factOf_18 (by decide) (fun _ => ?_) (fun _ => ?_)
    · refine g_iload_n C dX7_factOf_26 3 rfl rfl ?_
      refine g_iconst C (2 : Int32) dX7_factOf_27 rfl ?_
      refine g_icmp_ne C 36 dX7_factOf_28 (by decide) (fun _ => ?_) (fun _ => ?_)
      · refine g_iload_n C dX7_factOf_36 3 rfl rfl ?_
        refine g_bipush C (9 : Int32) dX7_factOf_37 rfl ?_
        refine g_icmp_ge C 51 dX7_factOf_39 (by decide) (fun _ => ?_) (fun _ => ?_)
        · refine g_iload_n C dX7_factOf_51 3 rfl rfl ?_
          refine g_bipush C (15 : Int32) dX7_factOf_52 rfl ?_
          refine g_icmp_ge C 69 dX7_factOf_54 (by decide) (fun _ => ?_) (fun _ => ?_)
          · refine g_aload_n C dX7_factOf_69 1 rfl rfl ?_
            refine g_iload_n C dX7_factOf_70 2 rfl rfl ?_
            refine g_callVi C cv_X7_mayGoods (ct_X7_mayGoods a0 x1 h0 m0) q_375 h0 (by decide) rfl rfl (Nat.le_of_ble_eq_true rfl) dX7_factOf_71 (fun r2 m3 => ?_)
            refine g_sub [] rfl ?_
            exact s_X7_factOf_J74 C Rr r2 m3
          · refine g_aload_n C dX7_factOf_57 0 rfl rfl ?_
            refine g_getr C 4 2 Fx5 (ca_10 (cl_7_3 h0) g1) (by decide) rfl rfl q_63 dX7_factOf_58 ?_
            refine g_iload_n C dX7_factOf_61 3 rfl rfl ?_
            refine g_bipush C (9 : Int32) dX7_factOf_62 rfl ?_
            refine g_isub C dX7_factOf_64 ?_
            refine g_iald (n := 6) C (cl_5_4 (ca_10 (cl_7_3 h0) g1)) dX7_factOf_65 (fun _ => ?_)
            refine g_goto C 74 dX7_factOf_66 (by decide) ?_
            refine g_sub [] rfl ?_
            exact s_X7_factOf_J74 C Rr (m0 (((a0 + 2) + 5 + 3 * x1.toNatClampNeg) + 2) (x2 - (9 : Int32)).toNatClampNeg) m0
        · refine g_aload_n C dX7_factOf_42 0 rfl rfl ?_
          refine g_getr C 3 1 Fx5 (ca_10 (cl_7_3 h0) g1) (by decide) rfl rfl q_59 dX7_factOf_43 ?_
          refine g_iload_n C dX7_factOf_46 3 rfl rfl ?_
          refine g_iconst C (3 : Int32) dX7_factOf_47 rfl ?_
          refine g_isub C dX7_factOf_48 ?_
          refine g_iald (n := 6) C (cl_5_3 (ca_10 (cl_7_3 h0) g1)) dX7_factOf_49 (fun _ => ?_)
          exact g_iret C Rr dX7_factOf_50
      · refine g_aload_n C dX7_factOf_31 0 rfl rfl ?_
        refine g_geti C 2 Fx5 (ca_10 (cl_7_3 h0) g1) (by decide) rfl rfl q_56 dX7_factOf_32 ?_
        exact g_iret C Rr dX7_factOf_35
    · refine g_aload_n C dX7_factOf_21 0 rfl rfl ?_
      refine g_geti C 1 Fx5 (ca_10 (cl_7_3 h0) g1) (by decide) rfl rfl q_54 dX7_factOf_22 ?_
      exact g_iret C Rr dX7_factOf_25
  · refine g_aload_n C dX7_factOf_11 0 rfl rfl ?_
    refine g_geti C 0 Fx5 (ca_10 (cl_7_3 h0) g1) (by decide) rfl rfl q_50 dX7_factOf_12 ?_
    exact g_iret C Rr dX7_factOf_15
theorem ct_X7_factOf {Ω : OT} (a0 : Nat) (x1 : Int32) (x2 : Int32) (h0 : tg a0 = 7) (m0 : Mem) : Ct Ω yX7_factOf cX7_factOf 4 (some .int) 4 [.ref (oF Ω a0), .int x1, .int x2] m0 (f_X7_factOf a0 x1 x2 m0) := by
  refine Ct_of (by decide) (Nat.le_of_ble_eq_true rfl) ?_
  intro K hK C Rr
  subst hK
  exact s_X7_factOf C Rr  a0 x1 x2 h0 m0
def X7_fillOf_J87   (x4 : Int32) (m0 : Mem) : Res :=
  gd (!((2 : Int32) == 0)) (
  some (x4 / (2 : Int32), m0))
def X7_fillOf_J115   (xs0 : Int32) (m0 : Mem) : Res :=
  some (xs0, m0)
def X7_fillOf_J38   (a0 : Nat) (x2 : Int32) (a3 : Nat) (x4 : Int32) (x5 : Int32) (xs0 : Int32) (m0 : Mem) : Res :=
  (if (m0 a3 0) = (1 : Int32) then
  some (xs0, m0)
  else
  if (m0 a3 0) = (2 : Int32) then
  X7_fillOf_J87 x4 m0
  else
  if (m0 a3 0) = (3 : Int32) then
  some (imin (1 : Int32) x4, m0)
  else
  if (m0 a3 0) = (4 : Int32) then
  (if xs0 = 0 then
  X7_fillOf_J115 (0 : Int32) m0
  else
  X7_fillOf_J115 (xs0 + (m0 a3 1)) m0)
  else
  if (m0 a3 0) = (5 : Int32) then
  X7_fillOf_J87 x4 m0
  else
  if (m0 a3 0) = (6 : Int32) then
  gd (inb (0 : Int32) 2) (
  cal (f_X1_isTold ((a0 + 4) + 31 + 3 * (0 : Int32).toNatClampNeg) m0) (fun r7 m8 =>
  (if r7 = 0 then
  some (x4, m8)
  else
  gd (inb (0 : Int32) 2) (
  cal (f_X1_value ((a0 + 4) + 31 + 3 * (0 : Int32).toNatClampNeg) x4 x5 x2 (m8 a3 1) m8) (fun r10 m11 =>
  cal (f_X8_hold r10 (0 : Int32) (99 : Int32) m11) (fun r12 m13 =>
  some (r12, m13)))))))
  else
  some (x4, m0))
def f_X7_fillOf  (a0 : Nat) (x1 : Int32) (x2 : Int32) (m0 : Mem) : Res :=
  gd (inb x1 6) (
  gd (inb x2 6) (
  bnd (m0 (((a0 + 2) + 5 + 3 * x1.toNatClampNeg) + 1) x2.toNatClampNeg) (fun y2 =>
  cal (f_X7_leftOf a0 x1 m0) (fun r3 m4 =>
  cal (f_X7_stockOf a0 r3 x2 m4) (fun r5 m6 =>
  (if r5 ≤ 0 then
  X7_fillOf_J38 a0 x2 ((a0 + 2) + 5 + 3 * x1.toNatClampNeg) y2 r5 y2 m6
  else
  X7_fillOf_J38 a0 x2 ((a0 + 2) + 5 + 3 * x1.toNatClampNeg) y2 r5 (0 : Int32) m6))))))
set_option maxHeartbeats 2000000 in
theorem s_X7_fillOf_J87 {K : KT}  (C : Cx K cX7_fillOf RX7 7 3) (Rr : Rx K (some .int))    (x4 : Int32)  (m0 : Mem) : G K 87 [(4, .int x4)] [] m0 (X7_fillOf_J87 x4 m0) := by
  unfold X7_fillOf_J87
  refine g_iload C dX7_fillOf_87 0 rfl ?_
  refine g_iconst C (2 : Int32) dX7_fillOf_89 rfl ?_
  refine g_idiv C dX7_fillOf_90 (fun _ => ?_)
  exact g_iret C Rr dX7_fillOf_91
set_option maxHeartbeats 2000000 in
theorem s_X7_fillOf_J115 {K : KT}  (C : Cx K cX7_fillOf RX7 7 3) (Rr : Rx K (some .int))    (xs0 : Int32)  (m0 : Mem) : G K 115 [] [.int xs0] m0 (X7_fillOf_J115 xs0 m0) := by
  unfold X7_fillOf_J115
  exact g_iret C Rr dX7_fillOf_115
set_option maxHeartbeats 2000000 in
theorem s_X7_fillOf_J38 {K : KT}  (C : Cx K cX7_fillOf RX7 7 3) (Rr : Rx K (some .int))    (a0 : Nat) (x2 : Int32) (a3 : Nat) (x4 : Int32) (x5 : Int32) (xs0 : Int32) (h0 : tg a0 = 7) (h3 : tg a3 = 5) (m0 : Mem) : G K 38 [(0, .ref (kf K a0)), (2, .int x2), (3, .ref (kf K a3)), (4, .int x4), (5, .int x5)] [.int xs0] m0 (X7_fillOf_J38 a0 x2 a3 x4 x5 xs0 m0) := by
  unfold X7_fillOf_J38
  refine g_istore C dX7_fillOf_38 (by decide) rfl ?_
  refine g_aload_n C dX7_fillOf_40 3 rfl rfl ?_
  refine g_geti C 0 Fx5 h3 (by decide) rfl rfl q_50 dX7_fillOf_41 ?_
  refine g_tsw C 84 dX7_fillOf_44 (by decide) rfl (by decide) ?_ (fun e1 => ?_)
  · refine g_iload C dX7_fillOf_84 0 rfl ?_
    exact g_iret C Rr dX7_fillOf_86
  refine g_tsw C 87 dX7_fillOf_44 (by decide) rfl (by decide) ?_ (fun e2 => ?_)
  · refine g_sub [4] rfl ?_
    exact s_X7_fillOf_J87 C Rr x4 m0
  refine g_tsw C 92 dX7_fillOf_44 (by decide) rfl (by decide) ?_ (fun e3 => ?_)
  · refine g_iconst C (1 : Int32) dX7_fillOf_92 rfl ?_
    refine g_iload C dX7_fillOf_93 4 rfl ?_
    refine g_mmin C q_445 q_446 q_12 q_447 (by decide) (Nat.le_of_ble_eq_true rfl) dX7_fillOf_95 ?_
    exact g_iret C Rr dX7_fillOf_98
  refine g_tsw C 99 dX7_fillOf_44 (by decide) rfl (by decide) ?_ (fun e4 => ?_)
  · refine g_iload C dX7_fillOf_99 0 rfl ?_
    refine g_if_ne C 108 dX7_fillOf_101 (by decide) (fun _ => ?_) (fun _ => ?_)
    · refine g_iload C dX7_fillOf_108 0 rfl ?_
      refine g_aload_n C dX7_fillOf_110 3 rfl rfl ?_
      refine g_geti C 1 Fx5 h3 (by decide) rfl rfl q_54 dX7_fillOf_111 ?_
      refine g_iadd C dX7_fillOf_114 ?_
      refine g_sub [] rfl ?_
      exact s_X7_fillOf_J115 C Rr (xs0 + (m0 a3 1)) m0
    · refine g_iconst C (0 : Int32) dX7_fillOf_104 rfl ?_
      refine g_goto C 115 dX7_fillOf_105 (by decide) ?_
      refine g_sub [] rfl ?_
      exact s_X7_fillOf_J115 C Rr (0 : Int32) m0
  refine g_tsw C 87 dX7_fillOf_44 (by decide) rfl (by decide) ?_ (fun e5 => ?_)
  · refine g_sub [4] rfl ?_
    exact s_X7_fillOf_J87 C Rr x4 m0
  refine g_tsw C 116 dX7_fillOf_44 (by decide) rfl (by decide) ?_ (fun e14 => ?_)
  · refine g_aload_n C dX7_fillOf_116 1 rfl rfl ?_
    refine g_getr C 10 4 Fx7 h0 (by decide) rfl rfl q_147 dX7_fillOf_117 ?_
    refine g_iconst C (0 : Int32) dX7_fillOf_120 rfl ?_
    refine g_aald12 C (cl_7_10 h0) dX7_fillOf_121 (fun g6 => ?_)
    refine g_callVi C cv_X1_isTold (ct_X1_isTold ((a0 + 4) + 31 + 3 * (0 : Int32).toNatClampNeg) (ca_12 (cl_7_10 h0) g6) m0) q_420 (ca_12 (cl_7_10 h0) g6) (by decide) rfl rfl (Nat.le_of_ble_eq_true rfl) dX7_fillOf_122 (fun r7 m8 => ?_)
    refine g_if_ne C 131 dX7_fillOf_125 (by decide) (fun _ => ?_) (fun _ => ?_)
    · refine g_aload_n C dX7_fillOf_131 1 rfl rfl ?_
      refine g_getr C 10 4 Fx7 h0 (by decide) rfl rfl q_147 dX7_fillOf_132 ?_
      refine g_iconst C (0 : Int32) dX7_fillOf_135 rfl ?_
      refine g_aald12 C (cl_7_10 h0) dX7_fillOf_136 (fun g9 => ?_)
      refine g_iload C dX7_fillOf_137 4 rfl ?_
      refine g_iload C dX7_fillOf_139 5 rfl ?_
      refine g_iload_n C dX7_fillOf_141 2 rfl rfl ?_
      refine g_aload_n C dX7_fillOf_142 3 rfl rfl ?_
      refine g_geti C 1 Fx5 h3 (by decide) rfl rfl q_54 dX7_fillOf_143 ?_
      refine g_callVi C cv_X1_value (ct_X1_value ((a0 + 4) + 31 + 3 * (0 : Int32).toNatClampNeg) x4 x5 x2 (m8 a3 1) (ca_12 (cl_7_10 h0) g9) m8) q_424 (ca_12 (cl_7_10 h0) g9) (by decide) rfl rfl (Nat.le_of_ble_eq_true rfl) dX7_fillOf_146 (fun r10 m11 => ?_)
      refine g_iconst C (0 : Int32) dX7_fillOf_149 rfl ?_
      refine g_bipush C (99 : Int32) dX7_fillOf_150 rfl ?_
      refine g_callNi C cv_X8_hold q_435 (ct_X8_hold r10 (0 : Int32) (99 : Int32)  m11) (by decide +kernel) (by decide) rfl rfl (Nat.le_of_ble_eq_true rfl) dX7_fillOf_152 (fun r12 m13 => ?_)
      exact g_iret C Rr dX7_fillOf_155
    · refine g_iload C dX7_fillOf_128 4 rfl ?_
      exact g_iret C Rr dX7_fillOf_130
  refine g_tswd C 156 dX7_fillOf_44 (sw_out [(1 : Int32), (2 : Int32), (3 : Int32), (4 : Int32), (5 : Int32), (6 : Int32)] (by intro v hv; simp only [List.mem_cons, List.not_mem_nil, or_false] at hv; rcases hv with rfl | rfl | rfl | rfl | rfl | rfl <;> assumption) (fun i h1 h2 => by have hi : i = 1 ∨ i = 2 ∨ i = 3 ∨ i = 4 ∨ i = 5 ∨ i = 6 := (by omega); rcases hi with rfl | rfl | rfl | rfl | rfl | rfl <;> simp)) (by decide) ?_
  refine g_iload C dX7_fillOf_156 4 rfl ?_
  exact g_iret C Rr dX7_fillOf_158
set_option maxHeartbeats 2000000 in
theorem s_X7_fillOf {K : KT}  (C : Cx K cX7_fillOf RX7 7 3) (Rr : Rx K (some .int))  (a0 : Nat) (x1 : Int32) (x2 : Int32) (h0 : tg a0 = 7) (m0 : Mem) : G K 0 [(0, .ref (kf K a0)), (1, .int x1), (2, .int x2)] [] m0 (f_X7_fillOf a0 x1 x2 m0) := by
  unfold f_X7_fillOf
  refine g_aload_n C dX7_fillOf_0 0 rfl rfl ?_
  refine g_getr C 3 2 Fx7 h0 (by decide) rfl rfl q_131 dX7_fillOf_1 ?_
  refine g_iload_n C dX7_fillOf_4 1 rfl rfl ?_
  refine g_aald10 C (cl_7_3 h0) dX7_fillOf_5 (fun g1 => ?_)
  refine g_astore_n C dX7_fillOf_6 rfl (by decide) rfl ?_
  refine g_aload_n C dX7_fillOf_7 0 rfl rfl ?_
  refine g_getr C 3 1 Fx5 (ca_10 (cl_7_3 h0) g1) (by decide) rfl rfl q_59 dX7_fillOf_8 ?_
  refine g_iload_n C dX7_fillOf_11 3 rfl rfl ?_
  refine g_iald (n := 6) C (cl_5_3 (ca_10 (cl_7_3 h0) g1)) dX7_fillOf_12 (fun _ => ?_)
  refine g_bnd (fun y2 => ?_)
  refine g_istore C dX7_fillOf_13 (by decide) rfl ?_
  refine g_aload_n C dX7_fillOf_15 2 rfl rfl ?_
  refine g_aload_n C dX7_fillOf_16 2 rfl rfl ?_
  refine g_iload_n C dX7_fillOf_17 3 rfl rfl ?_
  refine g_callVi C cv_X7_leftOf (ct_X7_leftOf a0 x1 h0 m0) q_383 h0 (by decide) rfl rfl (Nat.le_of_ble_eq_true rfl) dX7_fillOf_18 (fun r3 m4 => ?_)
  refine g_iload_n C dX7_fillOf_21 4 rfl rfl ?_
  refine g_callVi C cv_X7_stockOf (ct_X7_stockOf a0 r3 x2 h0 m4) q_387 h0 (by decide) rfl rfl (Nat.le_of_ble_eq_true rfl) dX7_fillOf_22 (fun r5 m6 => ?_)
  refine g_istore C dX7_fillOf_25 (by decide) rfl ?_
  refine g_iload C dX7_fillOf_27 0 rfl ?_
  refine g_if_le C 36 dX7_fillOf_29 (by decide) (fun _ => ?_) (fun _ => ?_)
  · refine g_iload C dX7_fillOf_36 1 rfl ?_
    refine g_sub [3, 5, 2, 1, 0] rfl ?_
    exact s_X7_fillOf_J38 C Rr a0 x2 ((a0 + 2) + 5 + 3 * x1.toNatClampNeg) y2 r5 y2 h0 (ca_10 (cl_7_3 h0) g1) m6
  · refine g_iconst C (0 : Int32) dX7_fillOf_32 rfl ?_
    refine g_goto C 38 dX7_fillOf_33 (by decide) ?_
    refine g_sub [3, 5, 2, 1, 0] rfl ?_
    exact s_X7_fillOf_J38 C Rr a0 x2 ((a0 + 2) + 5 + 3 * x1.toNatClampNeg) y2 r5 (0 : Int32) h0 (ca_10 (cl_7_3 h0) g1) m6
theorem ct_X7_fillOf {Ω : OT} (a0 : Nat) (x1 : Int32) (x2 : Int32) (h0 : tg a0 = 7) (m0 : Mem) : Ct Ω yX7_fillOf cX7_fillOf 7 (some .int) 3 [.ref (oF Ω a0), .int x1, .int x2] m0 (f_X7_fillOf a0 x1 x2 m0) := by
  refine Ct_of (by decide) (Nat.le_of_ble_eq_true rfl) ?_
  intro K hK C Rr
  subst hK
  exact s_X7_fillOf C Rr  a0 x1 x2 h0 m0
def X7_goodToBuy_J30    (m0 : Mem) : Res :=
  some ((-1 : Int32), m0)
def X7_goodToBuy_J78  (k35 : Nat → Nat → Int32 → Int32 → Mem → Res) (a0 : Nat) (a2 : Nat) (x3 : Int32) (x4 : Int32) (m0 : Mem) : Res :=
  bnd (x4 + (1 : Int32)) (fun y1 =>
  k35 a0 a2 x3 y1 m0)
def X7_goodToBuy_L35B  (k35 : Nat → Nat → Int32 → Int32 → Mem → Res) (a0 : Nat) (a2 : Nat) (x3 : Int32) (x4 : Int32) (m0 : Mem) : Res :=
  (if (6 : Int32) ≤ x4 then
  some ((-1 : Int32), m0)
  else
  gd (inb x4 6) (
  (if (m0 (a2 + 2) x4.toNatClampNeg) ≤ 0 then
  X7_goodToBuy_J78 k35 a0 a2 x3 x4 m0
  else
  gd (inb x3 6) (
  gd (inb x4 6) (
  cal (f_X8_within (m0 (((a0 + 2) + 5 + 3 * x3.toNatClampNeg) + 2) x4.toNatClampNeg) (1 : Int32) (m0 a2 1) m0) (fun r2 m3 =>
  (if r2 = 0 then
  X7_goodToBuy_J78 k35 a0 a2 x3 x4 m3
  else
  some (x4, m3))))))))
def X7_goodToBuy_L35   : Nat → Nat → Nat → Int32 → Int32 → Mem → Res
  | 0 => fun _ _ _ _ _ => none
  | n + 1 => X7_goodToBuy_L35B (X7_goodToBuy_L35 n)
def f_X7_goodToBuy  (a0 : Nat) (x1 : Int32) (m0 : Mem) : Res :=
  gd (inb x1 6) (
  cal (f_X7_leftOf a0 x1 m0) (fun r2 m3 =>
  (if (m3 ((a0 + 2) + 5 + 3 * x1.toNatClampNeg) 0) = (5 : Int32) then
  (if r2 < 0 then
  X7_goodToBuy_J30 m3
  else
  (if r2 = x1 then
  X7_goodToBuy_J30 m3
  else
  X7_goodToBuy_L35 FU a0 ((a0 + 2) + 5 + 3 * x1.toNatClampNeg) r2 (0 : Int32) m3))
  else
  X7_goodToBuy_J30 m3)))
set_option maxHeartbeats 2000000 in
theorem s_X7_goodToBuy_J30 {K : KT}  (C : Cx K cX7_goodToBuy RX7 5 2) (Rr : Rx K (some .int))      (m0 : Mem) : G K 30 [] [] m0 (X7_goodToBuy_J30 m0) := by
  unfold X7_goodToBuy_J30
  refine g_iconst C (-1 : Int32) dX7_goodToBuy_30 rfl ?_
  exact g_iret C Rr dX7_goodToBuy_31
set_option maxHeartbeats 2000000 in
theorem s_X7_goodToBuy_J78 {K : KT}  (C : Cx K cX7_goodToBuy RX7 5 2) (Rr : Rx K (some .int))  {k35 : Nat → Nat → Int32 → Int32 → Mem → Res} (hk35 : ∀ (a0 : Nat) (a2 : Nat) (x3 : Int32) (x4 : Int32) (h0 : tg a0 = 7) (h2 : tg a2 = 5) (m0 : Mem), G K 35 [(0, .ref (kf K a0)), (2, .ref (kf K a2)), (3, .int x3), (4, .int x4)] [] m0 (k35 a0 a2 x3 x4 m0)) (a0 : Nat) (a2 : Nat) (x3 : Int32) (x4 : Int32) (h0 : tg a0 = 7) (h2 : tg a2 = 5) (m0 : Mem) : G K 78 [(0, .ref (kf K a0)), (2, .ref (kf K a2)), (3, .int x3), (4, .int x4)] [] m0 (X7_goodToBuy_J78 k35 a0 a2 x3 x4 m0) := by
  unfold X7_goodToBuy_J78
  refine g_iinc (k := 3) C dX7_goodToBuy_78 rfl (w := (1 : Int32)) rfl (by decide) (fun v_ => [(4, .int v_), (0, .ref (kf K a0)), (2, .ref (kf K a2)), (3, .int x3)]) (fun _ => rfl) (fun y1 => ?_)
  refine g_goto C 35 dX7_goodToBuy_81 (by decide) ?_
  refine g_sub [1, 2, 3, 0] rfl ?_
  exact hk35 a0 a2 x3 y1 h0 h2 m0
set_option maxHeartbeats 2000000 in
theorem s_X7_goodToBuy_L35B {K : KT}  (C : Cx K cX7_goodToBuy RX7 5 2) (Rr : Rx K (some .int))  {k35 : Nat → Nat → Int32 → Int32 → Mem → Res} (hk35 : ∀ (a0 : Nat) (a2 : Nat) (x3 : Int32) (x4 : Int32) (h0 : tg a0 = 7) (h2 : tg a2 = 5) (m0 : Mem), G K 35 [(0, .ref (kf K a0)), (2, .ref (kf K a2)), (3, .int x3), (4, .int x4)] [] m0 (k35 a0 a2 x3 x4 m0)) (a0 : Nat) (a2 : Nat) (x3 : Int32) (x4 : Int32) (h0 : tg a0 = 7) (h2 : tg a2 = 5) (m0 : Mem) : G K 35 [(0, .ref (kf K a0)), (2, .ref (kf K a2)), (3, .int x3), (4, .int x4)] [] m0 (X7_goodToBuy_L35B k35 a0 a2 x3 x4 m0) := by
  unfold X7_goodToBuy_L35B
  refine g_iload C dX7_goodToBuy_35 3 rfl ?_
  refine g_bipush C (6 : Int32) dX7_goodToBuy_37 rfl ?_
  refine g_icmp_ge C 84 dX7_goodToBuy_39 (by decide) (fun _ => ?_) (fun _ => ?_)
  · refine g_iconst C (-1 : Int32) dX7_goodToBuy_84 rfl ?_
    exact g_iret C Rr dX7_goodToBuy_85
  · refine g_aload_n C dX7_goodToBuy_42 1 rfl rfl ?_
    refine g_getr C 4 2 Fx5 h2 (by decide) rfl rfl q_63 dX7_goodToBuy_43 ?_
    refine g_iload C dX7_goodToBuy_46 3 rfl ?_
    refine g_iald (n := 6) C (cl_5_4 h2) dX7_goodToBuy_48 (fun _ => ?_)
    refine g_if_le C 78 dX7_goodToBuy_49 (by decide) (fun _ => ?_) (fun _ => ?_)
    · refine g_sub [0, 1, 2, 3] rfl ?_
      exact s_X7_goodToBuy_J78 C Rr hk35 a0 a2 x3 x4 h0 h2 m0
    · refine g_aload_n C dX7_goodToBuy_52 0 rfl rfl ?_
      refine g_getr C 3 2 Fx7 h0 (by decide) rfl rfl q_131 dX7_goodToBuy_53 ?_
      refine g_iload_n C dX7_goodToBuy_56 2 rfl rfl ?_
      refine g_aald10 C (cl_7_3 h0) dX7_goodToBuy_57 (fun g1 => ?_)
      refine g_getr C 4 2 Fx5 (ca_10 (cl_7_3 h0) g1) (by decide) rfl rfl q_63 dX7_goodToBuy_58 ?_
      refine g_iload C dX7_goodToBuy_61 3 rfl ?_
      refine g_iald (n := 6) C (cl_5_4 (ca_10 (cl_7_3 h0) g1)) dX7_goodToBuy_63 (fun _ => ?_)
      refine g_iconst C (1 : Int32) dX7_goodToBuy_64 rfl ?_
      refine g_aload_n C dX7_goodToBuy_65 1 rfl rfl ?_
      refine g_geti C 1 Fx5 h2 (by decide) rfl rfl q_54 dX7_goodToBuy_66 ?_
      refine g_callNi C cv_X8_within q_342 (ct_X8_within (m0 (((a0 + 2) + 5 + 3 * x3.toNatClampNeg) + 2) x4.toNatClampNeg) (1 : Int32) (m0 a2 1)  m0) (by decide +kernel) (by decide) rfl rfl (Nat.le_of_ble_eq_true rfl) dX7_goodToBuy_69 (fun r2 m3 => ?_)
      refine g_if_eq C 78 dX7_goodToBuy_72 (by decide) (fun _ => ?_) (fun _ => ?_)
      · refine g_sub [0, 1, 2, 3] rfl ?_
        exact s_X7_goodToBuy_J78 C Rr hk35 a0 a2 x3 x4 h0 h2 m3
      · refine g_iload C dX7_goodToBuy_75 3 rfl ?_
        exact g_iret C Rr dX7_goodToBuy_77
theorem s_X7_goodToBuy_L35 {K : KT}  (C : Cx K cX7_goodToBuy RX7 5 2) (Rr : Rx K (some .int))    : ∀ (n : Nat) (a0 : Nat) (a2 : Nat) (x3 : Int32) (x4 : Int32) (h0 : tg a0 = 7) (h2 : tg a2 = 5) (m0 : Mem), G K 35 [(0, .ref (kf K a0)), (2, .ref (kf K a2)), (3, .int x3), (4, .int x4)] [] m0 (X7_goodToBuy_L35 n a0 a2 x3 x4 m0) := by
  intro n
  induction n with
  | zero => intros; exact g_none
  | succ n ih =>
    intro a0 a2 x3 x4 h0 h2 m0
    exact s_X7_goodToBuy_L35B C Rr  ih a0 a2 x3 x4 h0 h2 m0
set_option maxHeartbeats 2000000 in
theorem s_X7_goodToBuy {K : KT}  (C : Cx K cX7_goodToBuy RX7 5 2) (Rr : Rx K (some .int))  (a0 : Nat) (x1 : Int32) (h0 : tg a0 = 7) (m0 : Mem) : G K 0 [(0, .ref (kf K a0)), (1, .int x1)] [] m0 (f_X7_goodToBuy a0 x1 m0) := by
  unfold f_X7_goodToBuy
  refine g_aload_n C dX7_goodToBuy_0 0 rfl rfl ?_
  refine g_getr C 3 2 Fx7 h0 (by decide) rfl rfl q_131 dX7_goodToBuy_1 ?_
  refine g_iload_n C dX7_goodToBuy_4 1 rfl rfl ?_
  refine g_aald10 C (cl_7_3 h0) dX7_goodToBuy_5 (fun g1 => ?_)
  refine g_astore_n C dX7_goodToBuy_6 rfl (by decide) rfl ?_
  refine g_aload_n C dX7_goodToBuy_7 1 rfl rfl ?_
  refine g_iload_n C dX7_goodToBuy_8 2 rfl rfl ?_
  refine g_callVi C cv_X7_leftOf (ct_X7_leftOf a0 x1 h0 m0) q_383 h0 (by decide) rfl rfl (Nat.le_of_ble_eq_true rfl) dX7_goodToBuy_9 (fun r2 m3 => ?_)
  refine g_istore_n C dX7_goodToBuy_12 rfl (by decide) rfl ?_
  refine g_aload_n C dX7_goodToBuy_13 1 rfl rfl ?_
  refine g_geti C 0 Fx5 (ca_10 (cl_7_3 h0) g1) (by decide) rfl rfl q_50 dX7_goodToBuy_14 ?_
  refine g_iconst C (5 : Int32) dX7_goodToBuy_17 rfl ?_
  refine g_icmp_ne C 30 dX7_goodToBuy_18 (by decide) (fun _ => ?_) (fun _ => ?_)
  · refine g_sub [] rfl ?_
    exact s_X7_goodToBuy_J30 C Rr m3
  · refine g_iload_n C dX7_goodToBuy_21 0 rfl rfl ?_
    refine g_if_lt C 30 dX7_goodToBuy_22 (by decide) (fun _ => ?_) (fun _ => ?_)
    · refine g_sub [] rfl ?_
      exact s_X7_goodToBuy_J30 C Rr m3
    · refine g_iload_n C dX7_goodToBuy_25 0 rfl rfl ?_
      refine g_iload_n C dX7_goodToBuy_26 3 rfl rfl ?_
      refine g_icmp_ne C 32 dX7_goodToBuy_27 (by decide) (fun _ => ?_) (fun _ => ?_)
      · refine g_iconst C (0 : Int32) dX7_goodToBuy_32 rfl ?_
        refine g_istore C dX7_goodToBuy_33 (by decide) rfl ?_
        refine g_sub [3, 2, 1, 0] rfl ?_
        exact s_X7_goodToBuy_L35 C Rr FU a0 ((a0 + 2) + 5 + 3 * x1.toNatClampNeg) r2 (0 : Int32) h0 (ca_10 (cl_7_3 h0) g1) m3
      · refine g_sub [] rfl ?_
        exact s_X7_goodToBuy_J30 C Rr m3
theorem ct_X7_goodToBuy {Ω : OT} (a0 : Nat) (x1 : Int32) (h0 : tg a0 = 7) (m0 : Mem) : Ct Ω yX7_goodToBuy cX7_goodToBuy 5 (some .int) 2 [.ref (oF Ω a0), .int x1] m0 (f_X7_goodToBuy a0 x1 m0) := by
  refine Ct_of (by decide) (Nat.le_of_ble_eq_true rfl) ?_
  intro K hK C Rr
  subst hK
  exact s_X7_goodToBuy C Rr  a0 x1 h0 m0
def f_X7_buyOut  (a0 : Nat) (x1 : Int32) (x2 : Int32) (x3 : Int32) (m0 : Mem) : Res :=
  gd (inb x2 6) (
  gd (inb x3 6) (
  bnd (m0 (((a0 + 2) + 5 + 3 * x2.toNatClampNeg) + 2) x3.toNatClampNeg) (fun y2 =>
  cal (f_X7_priceOf a0 x2 x3 m0) (fun r3 m4 =>
  bnd (y2 * r3) (fun y5 =>
  gd (inb x1 6) (
  cal (f_X5_earn ((a0 + 2) + 5 + 3 * x1.toNatClampNeg) (-y5) m4) (fun r7 m8 =>
  gd (inb x2 6) (
  cal (f_X5_earn ((a0 + 2) + 5 + 3 * x2.toNatClampNeg) y5 m8) (fun r10 m11 =>
  gd (inb x2 6) (
  gd (inb x3 6) (bnd (mset m11 (((a0 + 2) + 5 + 3 * x2.toNatClampNeg) + 2) x3.toNatClampNeg (0 : Int32)) (fun m13 =>
  gd (inb x1 6) (
  gd (inb x1 6) (
  gd (inb x3 6) (
  gd (inb x3 6) (bnd (mset m13 (((a0 + 2) + 5 + 3 * x1.toNatClampNeg) + 2) x3.toNatClampNeg (imin (99 : Int32) ((m13 (((a0 + 2) + 5 + 3 * x1.toNatClampNeg) + 2) x3.toNatClampNeg) + y2))) (fun m16 =>
  some (0, m16))))))))))))))))))
set_option maxHeartbeats 2000000 in
theorem s_X7_buyOut {K : KT}  (C : Cx K cX7_buyOut RX7 6 4) (Rr : Rx K none)  (a0 : Nat) (x1 : Int32) (x2 : Int32) (x3 : Int32) (h0 : tg a0 = 7) (m0 : Mem) : G K 0 [(0, .ref (kf K a0)), (1, .int x1), (2, .int x2), (3, .int x3)] [] m0 (f_X7_buyOut a0 x1 x2 x3 m0) := by
  unfold f_X7_buyOut
  refine g_aload_n C dX7_buyOut_0 0 rfl rfl ?_
  refine g_getr C 3 2 Fx7 h0 (by decide) rfl rfl q_131 dX7_buyOut_1 ?_
  refine g_iload_n C dX7_buyOut_4 2 rfl rfl ?_
  refine g_aald10 C (cl_7_3 h0) dX7_buyOut_5 (fun g1 => ?_)
  refine g_getr C 4 2 Fx5 (ca_10 (cl_7_3 h0) g1) (by decide) rfl rfl q_63 dX7_buyOut_6 ?_
  refine g_iload_n C dX7_buyOut_9 3 rfl rfl ?_
  refine g_iald (n := 6) C (cl_5_4 (ca_10 (cl_7_3 h0) g1)) dX7_buyOut_10 (fun _ => ?_)
  refine g_bnd (fun y2 => ?_)
  refine g_istore C dX7_buyOut_11 (by decide) rfl ?_
  refine g_iload C dX7_buyOut_13 0 rfl ?_
  refine g_aload_n C dX7_buyOut_15 1 rfl rfl ?_
  refine g_iload_n C dX7_buyOut_16 3 rfl rfl ?_
  refine g_iload_n C dX7_buyOut_17 4 rfl rfl ?_
  refine g_callVi C cv_X7_priceOf (ct_X7_priceOf a0 x2 x3 h0 m0) q_652 h0 (by decide) rfl rfl (Nat.le_of_ble_eq_true rfl) dX7_buyOut_18 (fun r3 m4 => ?_)
  refine g_imul C dX7_buyOut_21 ?_
  refine g_bnd (fun y5 => ?_)
  refine g_istore C dX7_buyOut_22 (by decide) rfl ?_
  refine g_aload_n C dX7_buyOut_24 2 rfl rfl ?_
  refine g_getr C 3 2 Fx7 h0 (by decide) rfl rfl q_131 dX7_buyOut_25 ?_
  refine g_iload_n C dX7_buyOut_28 3 rfl rfl ?_
  refine g_aald10 C (cl_7_3 h0) dX7_buyOut_29 (fun g6 => ?_)
  refine g_iload C dX7_buyOut_30 0 rfl ?_
  refine g_ineg C dX7_buyOut_32 ?_
  refine g_callVv C cv_X5_earn (ct_X5_earn ((a0 + 2) + 5 + 3 * x1.toNatClampNeg) (-y5) (ca_10 (cl_7_3 h0) g6) m4) q_637 (ca_10 (cl_7_3 h0) g6) (by decide) rfl rfl (Nat.le_of_ble_eq_true rfl) dX7_buyOut_33 (fun r7 m8 => ?_)
  refine g_aload_n C dX7_buyOut_36 2 rfl rfl ?_
  refine g_getr C 3 2 Fx7 h0 (by decide) rfl rfl q_131 dX7_buyOut_37 ?_
  refine g_iload_n C dX7_buyOut_40 4 rfl rfl ?_
  refine g_aald10 C (cl_7_3 h0) dX7_buyOut_41 (fun g9 => ?_)
  refine g_iload C dX7_buyOut_42 0 rfl ?_
  refine g_callVv C cv_X5_earn (ct_X5_earn ((a0 + 2) + 5 + 3 * x2.toNatClampNeg) y5 (ca_10 (cl_7_3 h0) g9) m8) q_637 (ca_10 (cl_7_3 h0) g9) (by decide) rfl rfl (Nat.le_of_ble_eq_true rfl) dX7_buyOut_44 (fun r10 m11 => ?_)
  refine g_aload_n C dX7_buyOut_47 2 rfl rfl ?_
  refine g_getr C 3 2 Fx7 h0 (by decide) rfl rfl q_131 dX7_buyOut_48 ?_
  refine g_iload_n C dX7_buyOut_51 4 rfl rfl ?_
  refine g_aald10 C (cl_7_3 h0) dX7_buyOut_52 (fun g12 => ?_)
  refine g_getr C 4 2 Fx5 (ca_10 (cl_7_3 h0) g12) (by decide) rfl rfl q_63 dX7_buyOut_53 ?_
  refine g_iload_n C dX7_buyOut_56 5 rfl rfl ?_
  refine g_iconst C (0 : Int32) dX7_buyOut_57 rfl ?_
  refine g_iast (n := 6) C (cl_5_4 (ca_10 (cl_7_3 h0) g12)) dX7_buyOut_58 (fun m13 => ?_)
  refine g_aload_n C dX7_buyOut_59 2 rfl rfl ?_
  refine g_getr C 3 2 Fx7 h0 (by decide) rfl rfl q_131 dX7_buyOut_60 ?_
  refine g_iload_n C dX7_buyOut_63 3 rfl rfl ?_
  refine g_aald10 C (cl_7_3 h0) dX7_buyOut_64 (fun g14 => ?_)
  refine g_getr C 4 2 Fx5 (ca_10 (cl_7_3 h0) g14) (by decide) rfl rfl q_63 dX7_buyOut_65 ?_
  refine g_iload_n C dX7_buyOut_68 5 rfl rfl ?_
  refine g_bipush C (99 : Int32) dX7_buyOut_69 rfl ?_
  refine g_aload_n C dX7_buyOut_71 2 rfl rfl ?_
  refine g_getr C 3 2 Fx7 h0 (by decide) rfl rfl q_131 dX7_buyOut_72 ?_
  refine g_iload_n C dX7_buyOut_75 3 rfl rfl ?_
  refine g_aald10 C (cl_7_3 h0) dX7_buyOut_76 (fun g15 => ?_)
  refine g_getr C 4 2 Fx5 (ca_10 (cl_7_3 h0) g15) (by decide) rfl rfl q_63 dX7_buyOut_77 ?_
  refine g_iload_n C dX7_buyOut_80 5 rfl rfl ?_
  refine g_iald (n := 6) C (cl_5_4 (ca_10 (cl_7_3 h0) g15)) dX7_buyOut_81 (fun _ => ?_)
  refine g_iload C dX7_buyOut_82 1 rfl ?_
  refine g_iadd C dX7_buyOut_84 ?_
  refine g_mmin C q_445 q_446 q_12 q_447 (by decide) (Nat.le_of_ble_eq_true rfl) dX7_buyOut_85 ?_
  refine g_iast (n := 6) C (cl_5_4 (ca_10 (cl_7_3 h0) g14)) dX7_buyOut_88 (fun m16 => ?_)
  exact g_vret C Rr dX7_buyOut_89
theorem ct_X7_buyOut {Ω : OT} (a0 : Nat) (x1 : Int32) (x2 : Int32) (x3 : Int32) (h0 : tg a0 = 7) (m0 : Mem) : Ct Ω yX7_buyOut cX7_buyOut 6 none 4 [.ref (oF Ω a0), .int x1, .int x2, .int x3] m0 (f_X7_buyOut a0 x1 x2 x3 m0) := by
  refine Ct_of (by decide) (Nat.le_of_ble_eq_true rfl) ?_
  intro K hK C Rr
  subst hK
  exact s_X7_buyOut C Rr  a0 x1 x2 x3 h0 m0
def X7_fillShop_L9B  (k9 : Nat → Int32 → Nat → Int32 → Mem → Res) (a0 : Nat) (x1 : Int32) (a2 : Nat) (x3 : Int32) (m0 : Mem) : Res :=
  (if (6 : Int32) ≤ x3 then
  some (0, m0)
  else
  cal (f_X7_fillOf a0 x1 x3 m0) (fun r1 m2 =>
  gd (inb x3 6) (
  gd (inb x3 6) (
  cal (f_X5_earn a2 ((-(m2 (a0 + 1) x3.toNatClampNeg)) * (imax (0 : Int32) (r1 - (m2 (a2 + 2) x3.toNatClampNeg)))) m2) (fun r3 m4 =>
  gd (inb x3 6) (bnd (mset m4 (a2 + 2) x3.toNatClampNeg r1) (fun m5 =>
  bnd (x3 + (1 : Int32)) (fun y6 =>
  k9 a0 x1 a2 y6 m5))))))))
def X7_fillShop_L9   : Nat → Nat → Int32 → Nat → Int32 → Mem → Res
  | 0 => fun _ _ _ _ _ => none
  | n + 1 => X7_fillShop_L9B (X7_fillShop_L9 n)
def f_X7_fillShop  (a0 : Nat) (x1 : Int32) (m0 : Mem) : Res :=
  gd (inb x1 6) (
  X7_fillShop_L9 FU a0 x1 ((a0 + 2) + 5 + 3 * x1.toNatClampNeg) (0 : Int32) m0)
set_option maxHeartbeats 2000000 in
theorem s_X7_fillShop_L9B {K : KT}  (C : Cx K cX7_fillShop RX7 5 4) (Rr : Rx K none)  {k9 : Nat → Int32 → Nat → Int32 → Mem → Res} (hk9 : ∀ (a0 : Nat) (x1 : Int32) (a2 : Nat) (x3 : Int32) (h0 : tg a0 = 7) (h2 : tg a2 = 5) (m0 : Mem), G K 9 [(0, .ref (kf K a0)), (1, .int x1), (2, .ref (kf K a2)), (3, .int x3)] [] m0 (k9 a0 x1 a2 x3 m0)) (a0 : Nat) (x1 : Int32) (a2 : Nat) (x3 : Int32) (h0 : tg a0 = 7) (h2 : tg a2 = 5) (m0 : Mem) : G K 9 [(0, .ref (kf K a0)), (1, .int x1), (2, .ref (kf K a2)), (3, .int x3)] [] m0 (X7_fillShop_L9B k9 a0 x1 a2 x3 m0) := by
  unfold X7_fillShop_L9B
  refine g_iload_n C dX7_fillShop_9 3 rfl rfl ?_
  refine g_bipush C (6 : Int32) dX7_fillShop_10 rfl ?_
  refine g_icmp_ge C 62 dX7_fillShop_12 (by decide) (fun _ => ?_) (fun _ => ?_)
  · exact g_vret C Rr dX7_fillShop_62
  · refine g_aload_n C dX7_fillShop_15 0 rfl rfl ?_
    refine g_iload_n C dX7_fillShop_16 1 rfl rfl ?_
    refine g_iload_n C dX7_fillShop_17 3 rfl rfl ?_
    refine g_callVi C cv_X7_fillOf (ct_X7_fillOf a0 x1 x3 h0 m0) q_635 h0 (by decide) rfl rfl (Nat.le_of_ble_eq_true rfl) dX7_fillShop_18 (fun r1 m2 => ?_)
    refine g_istore C dX7_fillShop_21 (by decide) rfl ?_
    refine g_aload_n C dX7_fillShop_23 3 rfl rfl ?_
    refine g_aload_n C dX7_fillShop_24 1 rfl rfl ?_
    refine g_getr C 0 1 Fx7 h0 (by decide) rfl rfl q_125 dX7_fillShop_25 ?_
    refine g_iload_n C dX7_fillShop_28 4 rfl rfl ?_
    refine g_iald (n := 6) C (cl_7_0 h0) dX7_fillShop_29 (fun _ => ?_)
    refine g_ineg C dX7_fillShop_30 ?_
    refine g_iconst C (0 : Int32) dX7_fillShop_31 rfl ?_
    refine g_iload C dX7_fillShop_32 0 rfl ?_
    refine g_aload_n C dX7_fillShop_34 3 rfl rfl ?_
    refine g_getr C 4 2 Fx5 h2 (by decide) rfl rfl q_63 dX7_fillShop_35 ?_
    refine g_iload_n C dX7_fillShop_38 4 rfl rfl ?_
    refine g_iald (n := 6) C (cl_5_4 h2) dX7_fillShop_39 (fun _ => ?_)
    refine g_isub C dX7_fillShop_40 ?_
    refine g_mmax C q_636 q_541 q_12 q_542 (by decide) (Nat.le_of_ble_eq_true rfl) dX7_fillShop_41 ?_
    refine g_imul C dX7_fillShop_44 ?_
    refine g_callVv C cv_X5_earn (ct_X5_earn a2 ((-(m2 (a0 + 1) x3.toNatClampNeg)) * (imax (0 : Int32) (r1 - (m2 (a2 + 2) x3.toNatClampNeg)))) h2 m2) q_637 h2 (by decide) rfl rfl (Nat.le_of_ble_eq_true rfl) dX7_fillShop_45 (fun r3 m4 => ?_)
    refine g_aload_n C dX7_fillShop_48 3 rfl rfl ?_
    refine g_getr C 4 2 Fx5 h2 (by decide) rfl rfl q_63 dX7_fillShop_49 ?_
    refine g_iload_n C dX7_fillShop_52 4 rfl rfl ?_
    refine g_iload C dX7_fillShop_53 0 rfl ?_
    refine g_iast (n := 6) C (cl_5_4 h2) dX7_fillShop_55 (fun m5 => ?_)
    refine g_iinc (k := 4) C dX7_fillShop_56 rfl (w := (1 : Int32)) rfl (by decide) (fun v_ => [(3, .int v_), (4, .int r1), (0, .ref (kf K a0)), (1, .int x1), (2, .ref (kf K a2))]) (fun _ => rfl) (fun y6 => ?_)
    refine g_goto C 9 dX7_fillShop_59 (by decide) ?_
    refine g_sub [2, 3, 4, 0] rfl ?_
    exact hk9 a0 x1 a2 y6 h0 h2 m5
theorem s_X7_fillShop_L9 {K : KT}  (C : Cx K cX7_fillShop RX7 5 4) (Rr : Rx K none)    : ∀ (n : Nat) (a0 : Nat) (x1 : Int32) (a2 : Nat) (x3 : Int32) (h0 : tg a0 = 7) (h2 : tg a2 = 5) (m0 : Mem), G K 9 [(0, .ref (kf K a0)), (1, .int x1), (2, .ref (kf K a2)), (3, .int x3)] [] m0 (X7_fillShop_L9 n a0 x1 a2 x3 m0) := by
  intro n
  induction n with
  | zero => intros; exact g_none
  | succ n ih =>
    intro a0 x1 a2 x3 h0 h2 m0
    exact s_X7_fillShop_L9B C Rr  ih a0 x1 a2 x3 h0 h2 m0
set_option maxHeartbeats 2000000 in
theorem s_X7_fillShop {K : KT}  (C : Cx K cX7_fillShop RX7 5 4) (Rr : Rx K none)  (a0 : Nat) (x1 : Int32) (h0 : tg a0 = 7) (m0 : Mem) : G K 0 [(0, .ref (kf K a0)), (1, .int x1)] [] m0 (f_X7_fillShop a0 x1 m0) := by
  unfold f_X7_fillShop
  refine g_aload_n C dX7_fillShop_0 0 rfl rfl ?_
  refine g_getr C 3 2 Fx7 h0 (by decide) rfl rfl q_131 dX7_fillShop_1 ?_
  refine g_iload_n C dX7_fillShop_4 1 rfl rfl ?_
  refine g_aald10 C (cl_7_3 h0) dX7_fillShop_5 (fun g1 => ?_)
  refine g_astore_n C dX7_fillShop_6 rfl (by decide) rfl ?_
  refine g_iconst C (0 : Int32) dX7_fillShop_7 rfl ?_
  refine g_istore_n C dX7_fillShop_8 rfl (by decide) rfl ?_
  refine g_sub [2, 3, 1, 0] rfl ?_
  exact s_X7_fillShop_L9 C Rr FU a0 x1 ((a0 + 2) + 5 + 3 * x1.toNatClampNeg) (0 : Int32) h0 (ca_10 (cl_7_3 h0) g1) m0
theorem ct_X7_fillShop {Ω : OT} (a0 : Nat) (x1 : Int32) (h0 : tg a0 = 7) (m0 : Mem) : Ct Ω yX7_fillShop cX7_fillShop 5 none 4 [.ref (oF Ω a0), .int x1] m0 (f_X7_fillShop a0 x1 m0) := by
  refine Ct_of (by decide) (Nat.le_of_ble_eq_true rfl) ?_
  intro K hK C Rr
  subst hK
  exact s_X7_fillShop C Rr  a0 x1 h0 m0
def X7_passMorning_L60B  (k60 : Nat → Int32 → Mem → Res) (a0 : Nat) (x1 : Int32) (m0 : Mem) : Res :=
  (if (m0 a0 4) ≤ x1 then
  some (0, m0)
  else
  gd (inb x1 6) (
  gd (inb x1 6) (
  cal (f_X5_goodsHere ((a0 + 2) + 5 + 3 * x1.toNatClampNeg) m0) (fun r3 m4 =>
  bnd (mset m4 ((a0 + 2) + 5 + 3 * x1.toNatClampNeg) 5 r3) (fun m5 =>
  bnd (x1 + (1 : Int32)) (fun y6 =>
  k60 a0 y6 m5))))))
def X7_passMorning_L60   : Nat → Nat → Int32 → Mem → Res
  | 0 => fun _ _ _ => none
  | n + 1 => X7_passMorning_L60B (X7_passMorning_L60 n)
def X7_passMorning_J52  (k23 : Nat → Int32 → Mem → Res) (a0 : Nat) (x1 : Int32) (m0 : Mem) : Res :=
  bnd (x1 + (1 : Int32)) (fun y1 =>
  k23 a0 y1 m0)
def X7_passMorning_L23B  (k23 : Nat → Int32 → Mem → Res) (a0 : Nat) (x1 : Int32) (m0 : Mem) : Res :=
  (if (m0 a0 4) ≤ x1 then
  X7_passMorning_L60 FU a0 (0 : Int32) m0
  else
  cal (f_X7_goodToBuy a0 x1 m0) (fun r1 m2 =>
  (if r1 < 0 then
  X7_passMorning_J52 k23 a0 x1 m2
  else
  cal (f_X7_leftOf a0 x1 m2) (fun r3 m4 =>
  cal (f_X7_buyOut a0 x1 r3 r1 m4) (fun r5 m6 =>
  X7_passMorning_J52 k23 a0 x1 m6)))))
def X7_passMorning_L23   : Nat → Nat → Int32 → Mem → Res
  | 0 => fun _ _ _ => none
  | n + 1 => X7_passMorning_L23B (X7_passMorning_L23 n)
def X7_passMorning_L2B  (k2 : Nat → Int32 → Mem → Res) (a0 : Nat) (x1 : Int32) (m0 : Mem) : Res :=
  (if (m0 a0 4) ≤ x1 then
  X7_passMorning_L23 FU a0 (0 : Int32) m0
  else
  cal (f_X7_fillShop a0 x1 m0) (fun r1 m2 =>
  bnd (x1 + (1 : Int32)) (fun y3 =>
  k2 a0 y3 m2)))
def X7_passMorning_L2   : Nat → Nat → Int32 → Mem → Res
  | 0 => fun _ _ _ => none
  | n + 1 => X7_passMorning_L2B (X7_passMorning_L2 n)
def f_X7_passMorning  (a0 : Nat) (m0 : Mem) : Res :=
  X7_passMorning_L2 FU a0 (0 : Int32) m0
set_option maxHeartbeats 2000000 in
theorem s_X7_passMorning_L60B {K : KT}  (C : Cx K cX7_passMorning RX7 3 5) (Rr : Rx K none)  {k60 : Nat → Int32 → Mem → Res} (hk60 : ∀ (a0 : Nat) (x1 : Int32) (h0 : tg a0 = 7) (m0 : Mem), G K 60 [(0, .ref (kf K a0)), (1, .int x1)] [] m0 (k60 a0 x1 m0)) (a0 : Nat) (x1 : Int32) (h0 : tg a0 = 7) (m0 : Mem) : G K 60 [(0, .ref (kf K a0)), (1, .int x1)] [] m0 (X7_passMorning_L60B k60 a0 x1 m0) := by
  unfold X7_passMorning_L60B
  refine g_iload_n C dX7_passMorning_60 1 rfl rfl ?_
  refine g_aload_n C dX7_passMorning_61 0 rfl rfl ?_
  refine g_geti C 4 Fx7 h0 (by decide) rfl rfl q_134 dX7_passMorning_62 ?_
  refine g_icmp_ge C 92 dX7_passMorning_65 (by decide) (fun _ => ?_) (fun _ => ?_)
  · exact g_vret C Rr dX7_passMorning_92
  · refine g_aload_n C dX7_passMorning_68 0 rfl rfl ?_
    refine g_getr C 3 2 Fx7 h0 (by decide) rfl rfl q_131 dX7_passMorning_69 ?_
    refine g_iload_n C dX7_passMorning_72 1 rfl rfl ?_
    refine g_aald10 C (cl_7_3 h0) dX7_passMorning_73 (fun g1 => ?_)
    refine g_aload_n C dX7_passMorning_74 0 rfl rfl ?_
    refine g_getr C 3 2 Fx7 h0 (by decide) rfl rfl q_131 dX7_passMorning_75 ?_
    refine g_iload_n C dX7_passMorning_78 1 rfl rfl ?_
    refine g_aald10 C (cl_7_3 h0) dX7_passMorning_79 (fun g2 => ?_)
    refine g_callVi C cv_X5_goodsHere (ct_X5_goodsHere ((a0 + 2) + 5 + 3 * x1.toNatClampNeg) (ca_10 (cl_7_3 h0) g2) m0) q_653 (ca_10 (cl_7_3 h0) g2) (by decide) rfl rfl (Nat.le_of_ble_eq_true rfl) dX7_passMorning_80 (fun r3 m4 => ?_)
    refine g_puti C 5 Fx5 (ca_10 (cl_7_3 h0) g1) (by decide) rfl rfl rfl rfl q_66 dX7_passMorning_83 (fun m5 => ?_)
    refine g_iinc (k := 1) C dX7_passMorning_86 rfl (w := (1 : Int32)) rfl (by decide) (fun v_ => [(1, .int v_), (0, .ref (kf K a0))]) (fun _ => rfl) (fun y6 => ?_)
    refine g_goto C 60 dX7_passMorning_89 (by decide) ?_
    refine g_sub [1, 0] rfl ?_
    exact hk60 a0 y6 h0 m5
theorem s_X7_passMorning_L60 {K : KT}  (C : Cx K cX7_passMorning RX7 3 5) (Rr : Rx K none)    : ∀ (n : Nat) (a0 : Nat) (x1 : Int32) (h0 : tg a0 = 7) (m0 : Mem), G K 60 [(0, .ref (kf K a0)), (1, .int x1)] [] m0 (X7_passMorning_L60 n a0 x1 m0) := by
  intro n
  induction n with
  | zero => intros; exact g_none
  | succ n ih =>
    intro a0 x1 h0 m0
    exact s_X7_passMorning_L60B C Rr  ih a0 x1 h0 m0
set_option maxHeartbeats 2000000 in
theorem s_X7_passMorning_J52 {K : KT}  (C : Cx K cX7_passMorning RX7 3 5) (Rr : Rx K none)  {k23 : Nat → Int32 → Mem → Res} (hk23 : ∀ (a0 : Nat) (x1 : Int32) (h0 : tg a0 = 7) (m0 : Mem), G K 23 [(0, .ref (kf K a0)), (1, .int x1)] [] m0 (k23 a0 x1 m0)) (a0 : Nat) (x1 : Int32) (h0 : tg a0 = 7) (m0 : Mem) : G K 52 [(0, .ref (kf K a0)), (1, .int x1)] [] m0 (X7_passMorning_J52 k23 a0 x1 m0) := by
  unfold X7_passMorning_J52
  refine g_iinc (k := 1) C dX7_passMorning_52 rfl (w := (1 : Int32)) rfl (by decide) (fun v_ => [(1, .int v_), (0, .ref (kf K a0))]) (fun _ => rfl) (fun y1 => ?_)
  refine g_goto C 23 dX7_passMorning_55 (by decide) ?_
  refine g_sub [1, 0] rfl ?_
  exact hk23 a0 y1 h0 m0
set_option maxHeartbeats 2000000 in
theorem s_X7_passMorning_L23B {K : KT}  (C : Cx K cX7_passMorning RX7 3 5) (Rr : Rx K none)  {k23 : Nat → Int32 → Mem → Res} (hk23 : ∀ (a0 : Nat) (x1 : Int32) (h0 : tg a0 = 7) (m0 : Mem), G K 23 [(0, .ref (kf K a0)), (1, .int x1)] [] m0 (k23 a0 x1 m0)) (a0 : Nat) (x1 : Int32) (h0 : tg a0 = 7) (m0 : Mem) : G K 23 [(0, .ref (kf K a0)), (1, .int x1)] [] m0 (X7_passMorning_L23B k23 a0 x1 m0) := by
  unfold X7_passMorning_L23B
  refine g_iload_n C dX7_passMorning_23 1 rfl rfl ?_
  refine g_aload_n C dX7_passMorning_24 0 rfl rfl ?_
  refine g_geti C 4 Fx7 h0 (by decide) rfl rfl q_134 dX7_passMorning_25 ?_
  refine g_icmp_ge C 58 dX7_passMorning_28 (by decide) (fun _ => ?_) (fun _ => ?_)
  · refine g_iconst C (0 : Int32) dX7_passMorning_58 rfl ?_
    refine g_istore_n C dX7_passMorning_59 rfl (by decide) rfl ?_
    refine g_sub [1, 0] rfl ?_
    exact s_X7_passMorning_L60 C Rr FU a0 (0 : Int32) h0 m0
  · refine g_aload_n C dX7_passMorning_31 0 rfl rfl ?_
    refine g_iload_n C dX7_passMorning_32 1 rfl rfl ?_
    refine g_callVi C cv_X7_goodToBuy (ct_X7_goodToBuy a0 x1 h0 m0) q_644 h0 (by decide) rfl rfl (Nat.le_of_ble_eq_true rfl) dX7_passMorning_33 (fun r1 m2 => ?_)
    refine g_istore_n C dX7_passMorning_36 rfl (by decide) rfl ?_
    refine g_iload_n C dX7_passMorning_37 0 rfl rfl ?_
    refine g_if_lt C 52 dX7_passMorning_38 (by decide) (fun _ => ?_) (fun _ => ?_)
    · refine g_sub [1, 2] rfl ?_
      exact s_X7_passMorning_J52 C Rr hk23 a0 x1 h0 m2
    · refine g_aload_n C dX7_passMorning_41 1 rfl rfl ?_
      refine g_iload_n C dX7_passMorning_42 2 rfl rfl ?_
      refine g_aload_n C dX7_passMorning_43 1 rfl rfl ?_
      refine g_iload_n C dX7_passMorning_44 2 rfl rfl ?_
      refine g_callVi C cv_X7_leftOf (ct_X7_leftOf a0 x1 h0 m2) q_383 h0 (by decide) rfl rfl (Nat.le_of_ble_eq_true rfl) dX7_passMorning_45 (fun r3 m4 => ?_)
      refine g_iload_n C dX7_passMorning_48 0 rfl rfl ?_
      refine g_callVv C cv_X7_buyOut (ct_X7_buyOut a0 x1 r3 r1 h0 m4) q_648 h0 (by decide) rfl rfl (Nat.le_of_ble_eq_true rfl) dX7_passMorning_49 (fun r5 m6 => ?_)
      refine g_sub [1, 2] rfl ?_
      exact s_X7_passMorning_J52 C Rr hk23 a0 x1 h0 m6
theorem s_X7_passMorning_L23 {K : KT}  (C : Cx K cX7_passMorning RX7 3 5) (Rr : Rx K none)    : ∀ (n : Nat) (a0 : Nat) (x1 : Int32) (h0 : tg a0 = 7) (m0 : Mem), G K 23 [(0, .ref (kf K a0)), (1, .int x1)] [] m0 (X7_passMorning_L23 n a0 x1 m0) := by
  intro n
  induction n with
  | zero => intros; exact g_none
  | succ n ih =>
    intro a0 x1 h0 m0
    exact s_X7_passMorning_L23B C Rr  ih a0 x1 h0 m0
set_option maxHeartbeats 2000000 in
theorem s_X7_passMorning_L2B {K : KT}  (C : Cx K cX7_passMorning RX7 3 5) (Rr : Rx K none)  {k2 : Nat → Int32 → Mem → Res} (hk2 : ∀ (a0 : Nat) (x1 : Int32) (h0 : tg a0 = 7) (m0 : Mem), G K 2 [(0, .ref (kf K a0)), (1, .int x1)] [] m0 (k2 a0 x1 m0)) (a0 : Nat) (x1 : Int32) (h0 : tg a0 = 7) (m0 : Mem) : G K 2 [(0, .ref (kf K a0)), (1, .int x1)] [] m0 (X7_passMorning_L2B k2 a0 x1 m0) := by
  unfold X7_passMorning_L2B
  refine g_iload_n C dX7_passMorning_2 1 rfl rfl ?_
  refine g_aload_n C dX7_passMorning_3 0 rfl rfl ?_
  refine g_geti C 4 Fx7 h0 (by decide) rfl rfl q_134 dX7_passMorning_4 ?_
  refine g_icmp_ge C 21 dX7_passMorning_7 (by decide) (fun _ => ?_) (fun _ => ?_)
  · refine g_iconst C (0 : Int32) dX7_passMorning_21 rfl ?_
    refine g_istore_n C dX7_passMorning_22 rfl (by decide) rfl ?_
    refine g_sub [1, 0] rfl ?_
    exact s_X7_passMorning_L23 C Rr FU a0 (0 : Int32) h0 m0
  · refine g_aload_n C dX7_passMorning_10 0 rfl rfl ?_
    refine g_iload_n C dX7_passMorning_11 1 rfl rfl ?_
    refine g_callVv C cv_X7_fillShop (ct_X7_fillShop a0 x1 h0 m0) q_631 h0 (by decide) rfl rfl (Nat.le_of_ble_eq_true rfl) dX7_passMorning_12 (fun r1 m2 => ?_)
    refine g_iinc (k := 1) C dX7_passMorning_15 rfl (w := (1 : Int32)) rfl (by decide) (fun v_ => [(1, .int v_), (0, .ref (kf K a0))]) (fun _ => rfl) (fun y3 => ?_)
    refine g_goto C 2 dX7_passMorning_18 (by decide) ?_
    refine g_sub [1, 0] rfl ?_
    exact hk2 a0 y3 h0 m2
theorem s_X7_passMorning_L2 {K : KT}  (C : Cx K cX7_passMorning RX7 3 5) (Rr : Rx K none)    : ∀ (n : Nat) (a0 : Nat) (x1 : Int32) (h0 : tg a0 = 7) (m0 : Mem), G K 2 [(0, .ref (kf K a0)), (1, .int x1)] [] m0 (X7_passMorning_L2 n a0 x1 m0) := by
  intro n
  induction n with
  | zero => intros; exact g_none
  | succ n ih =>
    intro a0 x1 h0 m0
    exact s_X7_passMorning_L2B C Rr  ih a0 x1 h0 m0
set_option maxHeartbeats 2000000 in
theorem s_X7_passMorning {K : KT}  (C : Cx K cX7_passMorning RX7 3 5) (Rr : Rx K none)  (a0 : Nat) (h0 : tg a0 = 7) (m0 : Mem) : G K 0 [(0, .ref (kf K a0))] [] m0 (f_X7_passMorning a0 m0) := by
  unfold f_X7_passMorning
  refine g_iconst C (0 : Int32) dX7_passMorning_0 rfl ?_
  refine g_istore_n C dX7_passMorning_1 rfl (by decide) rfl ?_
  refine g_sub [1, 0] rfl ?_
  exact s_X7_passMorning_L2 C Rr FU a0 (0 : Int32) h0 m0
theorem ct_X7_passMorning {Ω : OT} (a0 : Nat) (h0 : tg a0 = 7) (m0 : Mem) : Ct Ω yX7_passMorning cX7_passMorning 3 none 5 [.ref (oF Ω a0)] m0 (f_X7_passMorning a0 m0) := by
  refine Ct_of (by decide) (Nat.le_of_ble_eq_true rfl) ?_
  intro K hK C Rr
  subst hK
  exact s_X7_passMorning C Rr  a0 h0 m0
def X7_allGoAlong_L2B  (k2 : Nat → Int32 → Mem → Res) (a0 : Nat) (x1 : Int32) (m0 : Mem) : Res :=
  (if (m0 a0 6) ≤ x1 then
  some (0, m0)
  else
  cal (f_X7_goAlong a0 x1 m0) (fun r1 m2 =>
  bnd (x1 + (1 : Int32)) (fun y3 =>
  k2 a0 y3 m2)))
def X7_allGoAlong_L2   : Nat → Nat → Int32 → Mem → Res
  | 0 => fun _ _ _ => none
  | n + 1 => X7_allGoAlong_L2B (X7_allGoAlong_L2 n)
def f_X7_allGoAlong  (a0 : Nat) (m0 : Mem) : Res :=
  X7_allGoAlong_L2 FU a0 (0 : Int32) m0
set_option maxHeartbeats 2000000 in
theorem s_X7_allGoAlong_L2B {K : KT}  (C : Cx K cX7_allGoAlong RX7 2 5) (Rr : Rx K none)  {k2 : Nat → Int32 → Mem → Res} (hk2 : ∀ (a0 : Nat) (x1 : Int32) (h0 : tg a0 = 7) (m0 : Mem), G K 2 [(0, .ref (kf K a0)), (1, .int x1)] [] m0 (k2 a0 x1 m0)) (a0 : Nat) (x1 : Int32) (h0 : tg a0 = 7) (m0 : Mem) : G K 2 [(0, .ref (kf K a0)), (1, .int x1)] [] m0 (X7_allGoAlong_L2B k2 a0 x1 m0) := by
  unfold X7_allGoAlong_L2B
  refine g_iload_n C dX7_allGoAlong_2 1 rfl rfl ?_
  refine g_aload_n C dX7_allGoAlong_3 0 rfl rfl ?_
  refine g_geti C 6 Fx7 h0 (by decide) rfl rfl q_139 dX7_allGoAlong_4 ?_
  refine g_icmp_ge C 22 dX7_allGoAlong_7 (by decide) (fun _ => ?_) (fun _ => ?_)
  · exact g_vret C Rr dX7_allGoAlong_22
  · refine g_aload_n C dX7_allGoAlong_10 0 rfl rfl ?_
    refine g_iload_n C dX7_allGoAlong_11 1 rfl rfl ?_
    refine g_callVi C cv_X7_goAlong (ct_X7_goAlong a0 x1 h0 m0) q_695 h0 (by decide) rfl rfl (Nat.le_of_ble_eq_true rfl) dX7_allGoAlong_12 (fun r1 m2 => ?_)
    refine g_pop C dX7_allGoAlong_15 rfl ?_
    refine g_iinc (k := 1) C dX7_allGoAlong_16 rfl (w := (1 : Int32)) rfl (by decide) (fun v_ => [(1, .int v_), (0, .ref (kf K a0))]) (fun _ => rfl) (fun y3 => ?_)
    refine g_goto C 2 dX7_allGoAlong_19 (by decide) ?_
    refine g_sub [1, 0] rfl ?_
    exact hk2 a0 y3 h0 m2
theorem s_X7_allGoAlong_L2 {K : KT}  (C : Cx K cX7_allGoAlong RX7 2 5) (Rr : Rx K none)    : ∀ (n : Nat) (a0 : Nat) (x1 : Int32) (h0 : tg a0 = 7) (m0 : Mem), G K 2 [(0, .ref (kf K a0)), (1, .int x1)] [] m0 (X7_allGoAlong_L2 n a0 x1 m0) := by
  intro n
  induction n with
  | zero => intros; exact g_none
  | succ n ih =>
    intro a0 x1 h0 m0
    exact s_X7_allGoAlong_L2B C Rr  ih a0 x1 h0 m0
set_option maxHeartbeats 2000000 in
theorem s_X7_allGoAlong {K : KT}  (C : Cx K cX7_allGoAlong RX7 2 5) (Rr : Rx K none)  (a0 : Nat) (h0 : tg a0 = 7) (m0 : Mem) : G K 0 [(0, .ref (kf K a0))] [] m0 (f_X7_allGoAlong a0 m0) := by
  unfold f_X7_allGoAlong
  refine g_iconst C (0 : Int32) dX7_allGoAlong_0 rfl ?_
  refine g_istore_n C dX7_allGoAlong_1 rfl (by decide) rfl ?_
  refine g_sub [1, 0] rfl ?_
  exact s_X7_allGoAlong_L2 C Rr FU a0 (0 : Int32) h0 m0
theorem ct_X7_allGoAlong {Ω : OT} (a0 : Nat) (h0 : tg a0 = 7) (m0 : Mem) : Ct Ω yX7_allGoAlong cX7_allGoAlong 2 none 5 [.ref (oF Ω a0)] m0 (f_X7_allGoAlong a0 m0) := by
  refine Ct_of (by decide) (Nat.le_of_ble_eq_true rfl) ?_
  intro K hK C Rr
  subst hK
  exact s_X7_allGoAlong C Rr  a0 h0 m0
