/-! the two texts that are only read -/
section TXT
variable {K : KT} {cc : ByteArray} {own : String} {nL d pc : Nat} {L : List (Nat × Value)} {st : List Value} {μ : Mem} {X : Res}
def sby (j i : Nat) : Int32 := (bytS.getD j []).getD i 0
theorem g_callT (C : Cx K cc own nL d) {y : MethodName} {cb : ByteArray} {nb n db index j : Nat} {ty : FieldType} {As S : List Value} {Xc : Res} {kx : Int32 → Mem → Res} (hj : j < 2) (hV : Cv y cb nb (some ty) n) (hin : Cond.instanceMethod y ∈ gtbl) (hsel : Cond.selects "java/lang/String" y y ∈ gtbl) (hM : Ct (kO K) y cb nb (some ty) db (.ref (oS (kO K) (2 + j)) :: As) μ Xc) (hlk : Cond.methodLink own index y ∈ gtbl) (hd : db + 1 ≤ d) (hn : As.length = n) (hst : S = As.reverse ++ .ref (oS (kO K) (2 + j)) :: st) (hr : (st.map fun v => v.category).sum ≤ 8) (dg : decode cc pc = .ok (.invokevirtual index, 3))
    (g : ∀ r1 μ1, G K (pc + 3) L (.int r1 :: st) μ1 (kx r1 μ1)) : G K pc L S μ (cal Xc kx) := by
  intro r μ' hX H locs ls hP hS hl
  obtain ⟨⟨r1, μ1⟩, h1, h2⟩ := Option.bind_eq_some_iff.mp hX
  have hrc := vk_recv (i := j) C.sa.2.2.2.2.1 hj hS
  have run := W.runV (l := (kO K).1) (e := ke K) (below := kb K) (meth := kt K) (locs := locs) (cells := kn K) (slots := kz K) (g := F0 (km K) pc ls S) ⟨C.x, C.b, rfl, C.o, C.t⟩ (hM r1 μ1 h1) ⟨cb_of C hV hlk hd, C.t _ hin, C.t _ hsel⟩ ⟨Pm_blind _ _ _, hrc, Pm_at C hP hS _⟩ rfl hn hl.1 hst (lv_room hr) dg ⟨C.r.2.2.1, C.r.2.2.2⟩
  exact W_callG run (fun v st₀ t Lo h0 hq hLo => g_behind C (Xc := Xc) hS hl h0 hq hLo h2 g)
theorem g_tval (C : Cx K cc "java/lang/String" nL d) {index j : Nat} (hj : j < 2) (hlk : Cond.fieldLink "java/lang/String" index "java/lang/String" "value" "[B" ∈ gtbl) (dg : decode cc pc = .ok (.getfield index, 3)) (g : G K (pc + 3) L (.ref (oS (kO K) (4 + j)) :: st) μ X) : G K pc L (.ref (oS (kO K) (2 + j)) :: st) μ X := fun r μ' hX H locs ls hP hS hl => vk_getf C.x C.b (C.sa.2.2.2.2.1.1 j hj).2.2.1 hS C.o (C.t _ hlk) (fun _ h => h) dg (g r μ' hX H locs ls hP hS hl)
theorem g_tcod (C : Cx K cc "java/lang/String" nL d) {index j : Nat} (hj : j < 2) (hlk : Cond.fieldLink "java/lang/String" index "java/lang/String" "coder" "B" ∈ gtbl) (dg : decode cc pc = .ok (.getfield index, 3)) (g : G K (pc + 3) L (.int (0 : Int32) :: st) μ X) : G K pc L (.ref (oS (kO K) (2 + j)) :: st) μ X := fun r μ' hX H locs ls hP hS hl => vk_getf C.x C.b (C.sa.2.2.2.2.1.1 j hj).2.1 hS C.o (C.t _ hlk) (fun _ h => h) dg (g r μ' hX H locs ls hP hS hl)
theorem g_tcmp (C : Cx K cc "java/lang/String" nL d) {index : Nat} (hlk : Cond.fieldLink "java/lang/String" index "java/lang/String" "COMPACT_STRINGS" "Z" ∈ gtbl) (dg : decode cc pc = .ok (.getstatic index, 3)) (g : G K (pc + 3) L (.int (1 : Int32) :: st) μ X) : G K pc L st μ X := fun r μ' hX H locs ls hP hS hl => va_gets C.x C.b C.sa.2.2.2.2.2 hS C.o (C.t _ hlk) (fun _ h => h) dg (g r μ' hX H locs ls hP hS hl)
theorem lenS_4 {j : Nat} (hj : j < 2) : lenS.getD j 0 = 4 := by
  rcases (show j = 0 ∨ j = 1 by omega) with rfl | rfl <;> rfl
theorem g_tlen (C : Cx K cc own nL d) {j : Nat} (hj : j < 2) (dg : decode cc pc = .ok (.arraylength, 1)) (g : G K (pc + 1) L (.int (4 : Int32) :: st) μ X) : G K pc L (.ref (oS (kO K) (4 + j)) :: st) μ X := by
  intro r μ' hX H locs ls hP hS hl
  have hT := (C.sa.2.2.2.2.1.1 j hj).2.2.2
  rw [lenS_4 hj] at hT
  exact va_tlen C.x C.b hT hS rfl dg (g r μ' hX H locs ls hP hS hl)
theorem g_tbld (C : Cx K cc own nL d) {j : Nat} {i : Int32} (hj : j < 2) (dg : decode cc pc = .ok (.baload, 1)) (g : G K (pc + 1) L (.int (sby j i.toNatClampNeg) :: st) μ X) : G K pc L (.int i :: .ref (oS (kO K) (4 + j)) :: st) μ (gd (inb i 4) X) := by
  intro r μ' hX H locs ls hP hS hl
  obtain ⟨h1, h2⟩ := gd_some hX
  have hT := (C.sa.2.2.2.2.1.1 j hj).2.2.2
  rw [lenS_4 hj] at hT
  exact va_tb C.x C.b hT hS (inb_vp h1) rfl dg (g r μ' h2 H locs ls hP hS hl)
theorem g_bret (C : Cx K cc own nL d) (Rr : Rx K (some .byte)) {v : Int32} (dg : decode cc pc = .ok (.ireturn, 1)) : G K pc L [.int v] μ (gd (isb v) (some (v, μ))) := by
  intro r μ' hX H locs ls hP hS hl
  obtain ⟨h1, h2⟩ := gd_some hX
  cases h2
  rw [show kQ K v μ = _ from Rr.1 v μ]
  have hv : v = 0 ∨ v = 1 := of_decide_eq_true h1
  exact W.zret C.x C.b Rr.2.1 (by rcases hv with rfl | rfl <;> rfl) (fun t ht _ => ⟨rfl, by rw [ht]; exact hP, hS.F ht⟩) (fun q hq => hS.2.2 q hq) dg Rr.2.2
end TXT
def sixF (c : Int32) : List Int32 → Nat → Int32
  | [], _ => -1
  | b :: l, k => if b = c then nI k else sixF c l (k + 1)
/-- indexOf in the text that the code k names -/
def sidx (k c : Int32) : Int32 := sixF c (if k = 0 then [107, 108, 103, 109] else [99, 115, 100, 109]) 0
theorem fv_str2 {Ω : OT} {ci l k : Nat} {μ : Mem} (hf : fk ci k = 1) : fv Ω ci l (mset μ l k (0 : Int32)) k = .ref (oS Ω 2) := by
  unfold fv
  rw [hf]
  show Value.ref (oS Ω (if mset μ l k 0 l k = 0 then 2 else 3)) = _
  rw [mset_self, if_pos rfl]
theorem fv_str3 {Ω : OT} {ci l k : Nat} {μ : Mem} (hf : fk ci k = 1) : fv Ω ci l (mset μ l k (1 : Int32)) k = .ref (oS Ω 3) := by
  unfold fv
  rw [hf]
  show Value.ref (oS Ω (if mset μ l k 1 l k = 0 then 2 else 3)) = _
  rw [mset_self, if_neg (by decide)]
def J0_isLatin1_aae02_J18   (xs0 : Int32) (m0 : Mem) : Res :=
  gd (isb xs0) (some (xs0, m0))
def J0_isLatin1_aae02_J17    (m0 : Mem) : Res :=
  J0_isLatin1_aae02_J18 (0 : Int32) m0
def f_J0_isLatin1_aae02  (j0 : Nat) (m0 : Mem) : Res :=
  (if (1 : Int32) = 0 then
  J0_isLatin1_aae02_J17 m0
  else
  (if (0 : Int32) = 0 then
  J0_isLatin1_aae02_J18 (1 : Int32) m0
  else
  J0_isLatin1_aae02_J17 m0))
set_option maxHeartbeats 2000000 in
theorem s_J0_isLatin1_aae02_J18 {K : KT}  (C : Cx K cJ0_isLatin1_aae02 RJ0 1 1) (Rr : Rx K (some .boolean))    (xs0 : Int32)  (m0 : Mem) : G K 18 [] [.int xs0] m0 (J0_isLatin1_aae02_J18 xs0 m0) := by
  unfold J0_isLatin1_aae02_J18
  exact g_zret C Rr dJ0_isLatin1_aae02_18
set_option maxHeartbeats 2000000 in
theorem s_J0_isLatin1_aae02_J17 {K : KT}  (C : Cx K cJ0_isLatin1_aae02 RJ0 1 1) (Rr : Rx K (some .boolean))      (m0 : Mem) : G K 17 [] [] m0 (J0_isLatin1_aae02_J17 m0) := by
  unfold J0_isLatin1_aae02_J17
  refine g_iconst C (0 : Int32) dJ0_isLatin1_aae02_17 rfl ?_
  refine g_sub [] rfl ?_
  exact s_J0_isLatin1_aae02_J18 C Rr (0 : Int32) m0
set_option maxHeartbeats 2000000 in
theorem s_J0_isLatin1_aae02 {K : KT}  (C : Cx K cJ0_isLatin1_aae02 RJ0 1 1) (Rr : Rx K (some .boolean))  (j0 : Nat) (h0 : j0 < 2) (m0 : Mem) : G K 0 [(0, .ref (oS (kO K) (2 + j0)))] [] m0 (f_J0_isLatin1_aae02 j0 m0) := by
  unfold f_J0_isLatin1_aae02
  refine g_tcmp C q_524 dJ0_isLatin1_aae02_0 ?_
  refine g_if_eq C 17 dJ0_isLatin1_aae02_3 (by decide) (fun _ => ?_) (fun _ => ?_)
  · refine g_sub [] rfl ?_
    exact s_J0_isLatin1_aae02_J17 C Rr m0
  · refine g_aload_n C dJ0_isLatin1_aae02_6 0 rfl rfl ?_
    refine g_tcod C h0 q_1384 dJ0_isLatin1_aae02_7 ?_
    refine g_if_ne C 17 dJ0_isLatin1_aae02_10 (by decide) (fun _ => ?_) (fun _ => ?_)
    · refine g_sub [] rfl ?_
      exact s_J0_isLatin1_aae02_J17 C Rr m0
    · refine g_iconst C (1 : Int32) dJ0_isLatin1_aae02_13 rfl ?_
      refine g_goto C 18 dJ0_isLatin1_aae02_14 (by decide) ?_
      refine g_sub [] rfl ?_
      exact s_J0_isLatin1_aae02_J18 C Rr (1 : Int32) m0
theorem ct_J0_isLatin1_aae02 {Ω : OT} (j0 : Nat) (h0 : j0 < 2) (m0 : Mem) : Ct Ω yJ0_isLatin1_aae02 cJ0_isLatin1_aae02 1 (some .boolean) 1 [.ref (oS Ω (2 + j0))] m0 (f_J0_isLatin1_aae02 j0 m0) := by
  refine Ct_of (by decide) (Nat.le_of_ble_eq_true rfl) ?_
  intro K hK C Rr
  subst hK
  exact s_J0_isLatin1_aae02 C Rr  j0 h0 m0
def J0_coder_7d493_J14   (xs0 : Int32) (m0 : Mem) : Res :=
  gd (isb xs0) (some (xs0, m0))
def f_J0_coder_7d493  (j0 : Nat) (m0 : Mem) : Res :=
  (if (1 : Int32) = 0 then
  J0_coder_7d493_J14 (1 : Int32) m0
  else
  J0_coder_7d493_J14 (0 : Int32) m0)
set_option maxHeartbeats 2000000 in
theorem s_J0_coder_7d493_J14 {K : KT}  (C : Cx K cJ0_coder_7d493 RJ0 1 1) (Rr : Rx K (some .byte))    (xs0 : Int32)  (m0 : Mem) : G K 14 [] [.int xs0] m0 (J0_coder_7d493_J14 xs0 m0) := by
  unfold J0_coder_7d493_J14
  exact g_bret C Rr dJ0_coder_7d493_14
set_option maxHeartbeats 2000000 in
theorem s_J0_coder_7d493 {K : KT}  (C : Cx K cJ0_coder_7d493 RJ0 1 1) (Rr : Rx K (some .byte))  (j0 : Nat) (h0 : j0 < 2) (m0 : Mem) : G K 0 [(0, .ref (oS (kO K) (2 + j0)))] [] m0 (f_J0_coder_7d493 j0 m0) := by
  unfold f_J0_coder_7d493
  refine g_tcmp C q_524 dJ0_coder_7d493_0 ?_
  refine g_if_eq C 13 dJ0_coder_7d493_3 (by decide) (fun _ => ?_) (fun _ => ?_)
  · refine g_iconst C (1 : Int32) dJ0_coder_7d493_13 rfl ?_
    refine g_sub [] rfl ?_
    exact s_J0_coder_7d493_J14 C Rr (1 : Int32) m0
  · refine g_aload_n C dJ0_coder_7d493_6 0 rfl rfl ?_
    refine g_tcod C h0 q_1384 dJ0_coder_7d493_7 ?_
    refine g_goto C 14 dJ0_coder_7d493_10 (by decide) ?_
    refine g_sub [] rfl ?_
    exact s_J0_coder_7d493_J14 C Rr (0 : Int32) m0
theorem ct_J0_coder_7d493 {Ω : OT} (j0 : Nat) (h0 : j0 < 2) (m0 : Mem) : Ct Ω yJ0_coder_7d493 cJ0_coder_7d493 1 (some .byte) 1 [.ref (oS Ω (2 + j0))] m0 (f_J0_coder_7d493 j0 m0) := by
  refine Ct_of (by decide) (Nat.le_of_ble_eq_true rfl) ?_
  intro K hK C Rr
  subst hK
  exact s_J0_coder_7d493 C Rr  j0 h0 m0
def f_J0_length_8abf5  (j0 : Nat) (m0 : Mem) : Res :=
  cal (f_J0_coder_7d493 j0 m0) (fun r1 m2 =>
  some (isr (4 : Int32) r1, m2))
set_option maxHeartbeats 2000000 in
theorem s_J0_length_8abf5 {K : KT}  (C : Cx K cJ0_length_8abf5 RJ0 1 2) (Rr : Rx K (some .int))  (j0 : Nat) (h0 : j0 < 2) (m0 : Mem) : G K 0 [(0, .ref (oS (kO K) (2 + j0)))] [] m0 (f_J0_length_8abf5 j0 m0) := by
  unfold f_J0_length_8abf5
  refine g_aload_n C dJ0_length_8abf5_0 0 rfl rfl ?_
  refine g_tval C h0 q_1385 dJ0_length_8abf5_1 ?_
  refine g_tlen C h0 dJ0_length_8abf5_4 ?_
  refine g_aload_n C dJ0_length_8abf5_5 0 rfl rfl ?_
  refine g_callT C h0 cv_J0_coder_7d493 q_531 q_532 (ct_J0_coder_7d493 j0 h0 m0) q_530 (by decide) rfl rfl (Nat.le_of_ble_eq_true rfl) dJ0_length_8abf5_6 (fun r1 m2 => ?_)
  refine g_ishr C dJ0_length_8abf5_9 ?_
  exact g_iret C Rr dJ0_length_8abf5_10
theorem ct_J0_length_8abf5 {Ω : OT} (j0 : Nat) (h0 : j0 < 2) (m0 : Mem) : Ct Ω yJ0_length_8abf5 cJ0_length_8abf5 1 (some .int) 2 [.ref (oS Ω (2 + j0))] m0 (f_J0_length_8abf5 j0 m0) := by
  refine Ct_of (by decide) (Nat.le_of_ble_eq_true rfl) ?_
  intro K hK C Rr
  subst hK
  exact s_J0_length_8abf5 C Rr  j0 h0 m0
def J1_canEncode_9a6ad_J16   (xs0 : Int32) (m0 : Mem) : Res :=
  gd (isb xs0) (some (xs0, m0))
def J1_canEncode_9a6ad_J15    (m0 : Mem) : Res :=
  J1_canEncode_9a6ad_J16 (0 : Int32) m0
def f_J1_canEncode_9a6ad  (x0 : Int32) (m0 : Mem) : Res :=
  (if x0 < 0 then
  J1_canEncode_9a6ad_J15 m0
  else
  (if (255 : Int32) < x0 then
  J1_canEncode_9a6ad_J15 m0
  else
  J1_canEncode_9a6ad_J16 (1 : Int32) m0))
set_option maxHeartbeats 2000000 in
theorem s_J1_canEncode_9a6ad_J16 {K : KT}  (C : Cx K cJ1_canEncode_9a6ad RJ1 1 1) (Rr : Rx K (some .boolean))    (xs0 : Int32)  (m0 : Mem) : G K 16 [] [.int xs0] m0 (J1_canEncode_9a6ad_J16 xs0 m0) := by
  unfold J1_canEncode_9a6ad_J16
  exact g_zret C Rr dJ1_canEncode_9a6ad_16
set_option maxHeartbeats 2000000 in
theorem s_J1_canEncode_9a6ad_J15 {K : KT}  (C : Cx K cJ1_canEncode_9a6ad RJ1 1 1) (Rr : Rx K (some .boolean))      (m0 : Mem) : G K 15 [] [] m0 (J1_canEncode_9a6ad_J15 m0) := by
  unfold J1_canEncode_9a6ad_J15
  refine g_iconst C (0 : Int32) dJ1_canEncode_9a6ad_15 rfl ?_
  refine g_sub [] rfl ?_
  exact s_J1_canEncode_9a6ad_J16 C Rr (0 : Int32) m0
set_option maxHeartbeats 2000000 in
theorem s_J1_canEncode_9a6ad {K : KT}  (C : Cx K cJ1_canEncode_9a6ad RJ1 1 1) (Rr : Rx K (some .boolean))  (x0 : Int32)  (m0 : Mem) : G K 0 [(0, .int x0)] [] m0 (f_J1_canEncode_9a6ad x0 m0) := by
  unfold f_J1_canEncode_9a6ad
  refine g_iload_n C dJ1_canEncode_9a6ad_0 0 rfl rfl ?_
  refine g_if_lt C 15 dJ1_canEncode_9a6ad_1 (by decide) (fun _ => ?_) (fun _ => ?_)
  · refine g_sub [] rfl ?_
    exact s_J1_canEncode_9a6ad_J15 C Rr m0
  · refine g_iload_n C dJ1_canEncode_9a6ad_4 0 rfl rfl ?_
    refine g_sipush C (255 : Int32) dJ1_canEncode_9a6ad_5 rfl ?_
    refine g_icmp_gt C 15 dJ1_canEncode_9a6ad_8 (by decide) (fun _ => ?_) (fun _ => ?_)
    · refine g_sub [] rfl ?_
      exact s_J1_canEncode_9a6ad_J15 C Rr m0
    · refine g_iconst C (1 : Int32) dJ1_canEncode_9a6ad_11 rfl ?_
      refine g_goto C 16 dJ1_canEncode_9a6ad_12 (by decide) ?_
      refine g_sub [] rfl ?_
      exact s_J1_canEncode_9a6ad_J16 C Rr (1 : Int32) m0
theorem ct_J1_canEncode_9a6ad {Ω : OT} (x0 : Int32)  (m0 : Mem) : Ct Ω yJ1_canEncode_9a6ad cJ1_canEncode_9a6ad 1 (some .boolean) 1 [.int x0] m0 (f_J1_canEncode_9a6ad x0 m0) := by
  refine Ct_of (by decide) (Nat.le_of_ble_eq_true rfl) ?_
  intro K hK C Rr
  subst hK
  exact s_J1_canEncode_9a6ad C Rr  x0 m0
def J1_indexOfChar_4cfef_L7B  (k7 : Nat → Int32 → Int32 → Int32 → Mem → Res) (j0 : Nat) (x3 : Int32) (x4 : Int32) (x5 : Int32) (m0 : Mem) : Res :=
  (if x3 ≤ x5 then
  some ((-1 : Int32), m0)
  else
  gd (inb x5 4) (
  (if (sby j0 x5.toNatClampNeg) = x4 then
  some (x5, m0)
  else
  bnd (x5 + (1 : Int32)) (fun y1 =>
  k7 j0 x3 x4 y1 m0))))
def J1_indexOfChar_4cfef_L7   : Nat → Nat → Int32 → Int32 → Int32 → Mem → Res
  | 0 => fun _ _ _ _ _ => none
  | n + 1 => J1_indexOfChar_4cfef_L7B (J1_indexOfChar_4cfef_L7 n)
def f_J1_indexOfChar_4cfef  (j0 : Nat) (x1 : Int32) (x2 : Int32) (x3 : Int32) (m0 : Mem) : Res :=
  bnd x1.toInt8.toInt32 (fun y1 =>
  J1_indexOfChar_4cfef_L7 FU j0 x3 y1 x2 m0)
set_option maxHeartbeats 2000000 in
theorem s_J1_indexOfChar_4cfef_L7B {K : KT}  (C : Cx K cJ1_indexOfChar_4cfef RJ1 6 1) (Rr : Rx K (some .int))  {k7 : Nat → Int32 → Int32 → Int32 → Mem → Res} (hk7 : ∀ (j0 : Nat) (x3 : Int32) (x4 : Int32) (x5 : Int32) (h0 : j0 < 2) (m0 : Mem), G K 7 [(0, .ref (oS (kO K) (4 + j0))), (3, .int x3), (4, .int x4), (5, .int x5)] [] m0 (k7 j0 x3 x4 x5 m0)) (j0 : Nat) (x3 : Int32) (x4 : Int32) (x5 : Int32) (h0 : j0 < 2) (m0 : Mem) : G K 7 [(0, .ref (oS (kO K) (4 + j0))), (3, .int x3), (4, .int x4), (5, .int x5)] [] m0 (J1_indexOfChar_4cfef_L7B k7 j0 x3 x4 x5 m0) := by
  unfold J1_indexOfChar_4cfef_L7B
  refine g_iload C dJ1_indexOfChar_4cfef_7 3 rfl ?_
  refine g_iload_n C dJ1_indexOfChar_4cfef_9 1 rfl rfl ?_
  refine g_icmp_ge C 31 dJ1_indexOfChar_4cfef_10 (by decide) (fun _ => ?_) (fun _ => ?_)
  · refine g_iconst C (-1 : Int32) dJ1_indexOfChar_4cfef_31 rfl ?_
    exact g_iret C Rr dJ1_indexOfChar_4cfef_32
  · refine g_aload_n C dJ1_indexOfChar_4cfef_13 0 rfl rfl ?_
    refine g_iload C dJ1_indexOfChar_4cfef_14 3 rfl ?_
    refine g_tbld C h0 dJ1_indexOfChar_4cfef_16 ?_
    refine g_iload C dJ1_indexOfChar_4cfef_17 2 rfl ?_
    refine g_icmp_ne C 25 dJ1_indexOfChar_4cfef_19 (by decide) (fun _ => ?_) (fun _ => ?_)
    · refine g_iinc (k := 3) C dJ1_indexOfChar_4cfef_25 rfl (w := (1 : Int32)) rfl (by decide) (fun v_ => [(5, .int v_), (0, .ref (oS (kO K) (4 + j0))), (3, .int x3), (4, .int x4)]) (fun _ => rfl) (fun y1 => ?_)
      refine g_goto C 7 dJ1_indexOfChar_4cfef_28 (by decide) ?_
      refine g_sub [1, 2, 3, 0] rfl ?_
      exact hk7 j0 x3 x4 y1 h0 m0
    · refine g_iload C dJ1_indexOfChar_4cfef_22 3 rfl ?_
      exact g_iret C Rr dJ1_indexOfChar_4cfef_24
theorem s_J1_indexOfChar_4cfef_L7 {K : KT}  (C : Cx K cJ1_indexOfChar_4cfef RJ1 6 1) (Rr : Rx K (some .int))    : ∀ (n : Nat) (j0 : Nat) (x3 : Int32) (x4 : Int32) (x5 : Int32) (h0 : j0 < 2) (m0 : Mem), G K 7 [(0, .ref (oS (kO K) (4 + j0))), (3, .int x3), (4, .int x4), (5, .int x5)] [] m0 (J1_indexOfChar_4cfef_L7 n j0 x3 x4 x5 m0) := by
  intro n
  induction n with
  | zero => intros; exact g_none
  | succ n ih =>
    intro j0 x3 x4 x5 h0 m0
    exact s_J1_indexOfChar_4cfef_L7B C Rr  ih j0 x3 x4 x5 h0 m0
set_option maxHeartbeats 2000000 in
theorem s_J1_indexOfChar_4cfef {K : KT}  (C : Cx K cJ1_indexOfChar_4cfef RJ1 6 1) (Rr : Rx K (some .int))  (j0 : Nat) (x1 : Int32) (x2 : Int32) (x3 : Int32) (h0 : j0 < 2) (m0 : Mem) : G K 0 [(0, .ref (oS (kO K) (4 + j0))), (1, .int x1), (2, .int x2), (3, .int x3)] [] m0 (f_J1_indexOfChar_4cfef j0 x1 x2 x3 m0) := by
  unfold f_J1_indexOfChar_4cfef
  refine g_iload_n C dJ1_indexOfChar_4cfef_0 1 rfl rfl ?_
  refine g_i2b C dJ1_indexOfChar_4cfef_1 ?_
  refine g_bnd (fun y1 => ?_)
  refine g_istore C dJ1_indexOfChar_4cfef_2 (by decide) rfl ?_
  refine g_iload_n C dJ1_indexOfChar_4cfef_4 3 rfl rfl ?_
  refine g_istore C dJ1_indexOfChar_4cfef_5 (by decide) rfl ?_
  refine g_sub [2, 5, 1, 0] rfl ?_
  exact s_J1_indexOfChar_4cfef_L7 C Rr FU j0 x3 y1 x2 h0 m0
theorem ct_J1_indexOfChar_4cfef {Ω : OT} (j0 : Nat) (x1 : Int32) (x2 : Int32) (x3 : Int32) (h0 : j0 < 2) (m0 : Mem) : Ct Ω yJ1_indexOfChar_4cfef cJ1_indexOfChar_4cfef 6 (some .int) 1 [.ref (oS Ω (4 + j0)), .int x1, .int x2, .int x3] m0 (f_J1_indexOfChar_4cfef j0 x1 x2 x3 m0) := by
  refine Ct_of (by decide) (Nat.le_of_ble_eq_true rfl) ?_
  intro K hK C Rr
  subst hK
  exact s_J1_indexOfChar_4cfef C Rr  j0 x1 x2 x3 h0 m0
def f_J1_indexOf_4cfef  (j0 : Nat) (x1 : Int32) (x2 : Int32) (x3 : Int32) (m0 : Mem) : Res :=
  cal (f_J1_canEncode_9a6ad x1 m0) (fun r1 m2 =>
  (if r1 = 0 then
  some ((-1 : Int32), m2)
  else
  bnd (imax x2 (0 : Int32)) (fun y3 =>
  bnd (imin x3 (4 : Int32)) (fun y4 =>
  (if y3 < y4 then
  cal (f_J1_indexOfChar_4cfef j0 x1 y3 y4 m2) (fun r5 m6 =>
  some (r5, m6))
  else
  some ((-1 : Int32), m2))))))
set_option maxHeartbeats 2000000 in
theorem s_J1_indexOf_4cfef {K : KT}  (C : Cx K cJ1_indexOf_4cfef RJ1 4 2) (Rr : Rx K (some .int))  (j0 : Nat) (x1 : Int32) (x2 : Int32) (x3 : Int32) (h0 : j0 < 2) (m0 : Mem) : G K 0 [(0, .ref (oS (kO K) (4 + j0))), (1, .int x1), (2, .int x2), (3, .int x3)] [] m0 (f_J1_indexOf_4cfef j0 x1 x2 x3 m0) := by
  unfold f_J1_indexOf_4cfef
  refine g_iload_n C dJ1_indexOf_4cfef_0 1 rfl rfl ?_
  refine g_callSi C cv_J1_canEncode_9a6ad q_538 (ct_J1_canEncode_9a6ad x1  m0) q_537 (by decide) rfl rfl (Nat.le_of_ble_eq_true rfl) dJ1_indexOf_4cfef_1 (fun r1 m2 => ?_)
  refine g_if_ne C 9 dJ1_indexOf_4cfef_4 (by decide) (fun _ => ?_) (fun _ => ?_)
  · refine g_iload_n C dJ1_indexOf_4cfef_9 2 rfl rfl ?_
    refine g_iconst C (0 : Int32) dJ1_indexOf_4cfef_10 rfl ?_
    refine g_mmax C q_540 q_541 q_12 q_542 (by decide) (Nat.le_of_ble_eq_true rfl) dJ1_indexOf_4cfef_11 ?_
    refine g_bnd (fun y3 => ?_)
    refine g_istore_n C dJ1_indexOf_4cfef_14 rfl (by decide) rfl ?_
    refine g_iload_n C dJ1_indexOf_4cfef_15 3 rfl rfl ?_
    refine g_aload_n C dJ1_indexOf_4cfef_16 1 rfl rfl ?_
    refine g_tlen C h0 dJ1_indexOf_4cfef_17 ?_
    refine g_mmin C q_543 q_446 q_12 q_447 (by decide) (Nat.le_of_ble_eq_true rfl) dJ1_indexOf_4cfef_18 ?_
    refine g_bnd (fun y4 => ?_)
    refine g_istore_n C dJ1_indexOf_4cfef_21 rfl (by decide) rfl ?_
    refine g_iload_n C dJ1_indexOf_4cfef_22 1 rfl rfl ?_
    refine g_iload_n C dJ1_indexOf_4cfef_23 0 rfl rfl ?_
    refine g_icmp_lt C 29 dJ1_indexOf_4cfef_24 (by decide) (fun _ => ?_) (fun _ => ?_)
    · refine g_aload_n C dJ1_indexOf_4cfef_29 2 rfl rfl ?_
      refine g_iload_n C dJ1_indexOf_4cfef_30 3 rfl rfl ?_
      refine g_iload_n C dJ1_indexOf_4cfef_31 1 rfl rfl ?_
      refine g_iload_n C dJ1_indexOf_4cfef_32 0 rfl rfl ?_
      refine g_callSi C cv_J1_indexOfChar_4cfef q_545 (ct_J1_indexOfChar_4cfef j0 x1 y3 y4 h0 m2) q_544 (by decide) rfl rfl (Nat.le_of_ble_eq_true rfl) dJ1_indexOf_4cfef_33 (fun r5 m6 => ?_)
      exact g_iret C Rr dJ1_indexOf_4cfef_36
    · refine g_iconst C (-1 : Int32) dJ1_indexOf_4cfef_27 rfl ?_
      exact g_iret C Rr dJ1_indexOf_4cfef_28
  · refine g_iconst C (-1 : Int32) dJ1_indexOf_4cfef_7 rfl ?_
    exact g_iret C Rr dJ1_indexOf_4cfef_8
theorem ct_J1_indexOf_4cfef {Ω : OT} (j0 : Nat) (x1 : Int32) (x2 : Int32) (x3 : Int32) (h0 : j0 < 2) (m0 : Mem) : Ct Ω yJ1_indexOf_4cfef cJ1_indexOf_4cfef 4 (some .int) 2 [.ref (oS Ω (4 + j0)), .int x1, .int x2, .int x3] m0 (f_J1_indexOf_4cfef j0 x1 x2 x3 m0) := by
  refine Ct_of (by decide) (Nat.le_of_ble_eq_true rfl) ?_
  intro K hK C Rr
  subst hK
  exact s_J1_indexOf_4cfef C Rr  j0 x1 x2 x3 h0 m0
def J0_indexOf_7cf53_J36   (xs0 : Int32) (m0 : Mem) : Res :=
  some (xs0, m0)
def f_J0_indexOf_7cf53  (j0 : Nat) (x1 : Int32) (x2 : Int32) (m0 : Mem) : Res :=
  cal (f_J0_isLatin1_aae02 j0 m0) (fun r1 m2 =>
  (if r1 = 0 then
  none
  else
  cal (f_J0_length_8abf5 j0 m2) (fun r3 m4 =>
  cal (f_J1_indexOf_4cfef j0 x1 x2 r3 m4) (fun r5 m6 =>
  J0_indexOf_7cf53_J36 r5 m6))))
set_option maxHeartbeats 2000000 in
theorem s_J0_indexOf_7cf53_J36 {K : KT}  (C : Cx K cJ0_indexOf_7cf53 RJ0 3 3) (Rr : Rx K (some .int))    (xs0 : Int32)  (m0 : Mem) : G K 36 [] [.int xs0] m0 (J0_indexOf_7cf53_J36 xs0 m0) := by
  unfold J0_indexOf_7cf53_J36
  exact g_iret C Rr dJ0_indexOf_7cf53_36
set_option maxHeartbeats 2000000 in
theorem s_J0_indexOf_7cf53 {K : KT}  (C : Cx K cJ0_indexOf_7cf53 RJ0 3 3) (Rr : Rx K (some .int))  (j0 : Nat) (x1 : Int32) (x2 : Int32) (h0 : j0 < 2) (m0 : Mem) : G K 0 [(0, .ref (oS (kO K) (2 + j0))), (1, .int x1), (2, .int x2)] [] m0 (f_J0_indexOf_7cf53 j0 x1 x2 m0) := by
  unfold f_J0_indexOf_7cf53
  refine g_aload_n C dJ0_indexOf_7cf53_0 0 rfl rfl ?_
  refine g_callT C h0 cv_J0_isLatin1_aae02 q_521 q_522 (ct_J0_isLatin1_aae02 j0 h0 m0) q_520 (by decide) rfl rfl (Nat.le_of_ble_eq_true rfl) dJ0_indexOf_7cf53_1 (fun r1 m2 => ?_)
  refine g_if_eq C 23 dJ0_indexOf_7cf53_4 (by decide) (fun _ => ?_) (fun _ => ?_)
  · exact g_none
  · refine g_aload_n C dJ0_indexOf_7cf53_7 0 rfl rfl ?_
    refine g_tval C h0 q_1385 dJ0_indexOf_7cf53_8 ?_
    refine g_iload_n C dJ0_indexOf_7cf53_11 1 rfl rfl ?_
    refine g_iload_n C dJ0_indexOf_7cf53_12 2 rfl rfl ?_
    refine g_aload_n C dJ0_indexOf_7cf53_13 0 rfl rfl ?_
    refine g_callT C h0 cv_J0_length_8abf5 q_527 q_528 (ct_J0_length_8abf5 j0 h0 m2) q_526 (by decide) rfl rfl (Nat.le_of_ble_eq_true rfl) dJ0_indexOf_7cf53_14 (fun r3 m4 => ?_)
    refine g_callSi C cv_J1_indexOf_4cfef q_535 (ct_J1_indexOf_4cfef j0 x1 x2 r3 h0 m4) q_534 (by decide) rfl rfl (Nat.le_of_ble_eq_true rfl) dJ0_indexOf_7cf53_17 (fun r5 m6 => ?_)
    refine g_goto C 36 dJ0_indexOf_7cf53_20 (by decide) ?_
    refine g_sub [] rfl ?_
    exact s_J0_indexOf_7cf53_J36 C Rr r5 m6
theorem ct_J0_indexOf_7cf53 {Ω : OT} (j0 : Nat) (x1 : Int32) (x2 : Int32) (h0 : j0 < 2) (m0 : Mem) : Ct Ω yJ0_indexOf_7cf53 cJ0_indexOf_7cf53 3 (some .int) 3 [.ref (oS Ω (2 + j0)), .int x1, .int x2] m0 (f_J0_indexOf_7cf53 j0 x1 x2 m0) := by
  refine Ct_of (by decide) (Nat.le_of_ble_eq_true rfl) ?_
  intro K hK C Rr
  subst hK
  exact s_J0_indexOf_7cf53 C Rr  j0 x1 x2 h0 m0
def f_J0_indexOf_0f7a4  (j0 : Nat) (x1 : Int32) (m0 : Mem) : Res :=
  cal (f_J0_indexOf_7cf53 j0 x1 (0 : Int32) m0) (fun r1 m2 =>
  some (r1, m2))
set_option maxHeartbeats 2000000 in
theorem s_J0_indexOf_0f7a4 {K : KT}  (C : Cx K cJ0_indexOf_0f7a4 RJ0 2 4) (Rr : Rx K (some .int))  (j0 : Nat) (x1 : Int32) (h0 : j0 < 2) (m0 : Mem) : G K 0 [(0, .ref (oS (kO K) (2 + j0))), (1, .int x1)] [] m0 (f_J0_indexOf_0f7a4 j0 x1 m0) := by
  unfold f_J0_indexOf_0f7a4
  refine g_aload_n C dJ0_indexOf_0f7a4_0 0 rfl rfl ?_
  refine g_iload_n C dJ0_indexOf_0f7a4_1 1 rfl rfl ?_
  refine g_iconst C (0 : Int32) dJ0_indexOf_0f7a4_2 rfl ?_
  refine g_callT C h0 cv_J0_indexOf_7cf53 q_517 q_518 (ct_J0_indexOf_7cf53 j0 x1 (0 : Int32) h0 m0) q_516 (by decide) rfl rfl (Nat.le_of_ble_eq_true rfl) dJ0_indexOf_0f7a4_3 (fun r1 m2 => ?_)
  exact g_iret C Rr dJ0_indexOf_0f7a4_6
theorem ct_J0_indexOf_0f7a4 {Ω : OT} (j0 : Nat) (x1 : Int32) (h0 : j0 < 2) (m0 : Mem) : Ct Ω yJ0_indexOf_0f7a4 cJ0_indexOf_0f7a4 2 (some .int) 4 [.ref (oS Ω (2 + j0)), .int x1] m0 (f_J0_indexOf_0f7a4 j0 x1 m0) := by
  refine Ct_of (by decide) (Nat.le_of_ble_eq_true rfl) ?_
  intro K hK C Rr
  subst hK
  exact s_J0_indexOf_0f7a4 C Rr  j0 x1 h0 m0
theorem b_eq : ∀ n, n < 256 → ∀ b ∈ ([107, 108, 103, 109, 99, 115, 100] : List Int32), (b = (nI n).toInt8.toInt32 ↔ b = nI n) := by decide +kernel
theorem bnd_eq {α β : Type} (a : α) (f : α → β) : bnd a f = f a := rfl
theorem gd_t {α : Type} (x : Option α) : gd true x = x := rfl
theorem gd_f {α : Type} (x : Option α) : gd false x = none := rfl
theorem cal_some (r : Int32) (μ : Mem) (k : Int32 → Mem → Res) : cal (some (r, μ)) k = k r μ := rfl
theorem enc_eq (c : Int32) (m : Mem) : f_J1_canEncode_9a6ad c m = some (if c < 0 ∨ 255 < c then 0 else 1, m) := by
  unfold f_J1_canEncode_9a6ad J1_canEncode_9a6ad_J15 J1_canEncode_9a6ad_J16
  by_cases h1 : c < 0
  · rw [if_pos h1, if_pos (Or.inl h1)]; rfl
  · rw [if_neg h1]
    by_cases h2 : (255 : Int32) < c
    · rw [if_pos h2, if_pos (Or.inr h2)]; rfl
    · rw [if_neg h2, if_neg (fun q => q.elim h1 h2)]; rfl
theorem six_out {c : Int32} (h : c < 0 ∨ 255 < c) {j : Nat} (hj : j < 2) : sixF c (bytS.getD j []) 0 = -1 := by
  have hne : ∀ b ∈ ([107, 108, 103, 109, 99, 115, 100] : List Int32), ¬ b = c := by
    intro b hb he
    subst he
    revert h
    revert b
    decide
  have n1 := hne 107 (by simp); have n2 := hne 108 (by simp); have n3 := hne 103 (by simp); have n4 := hne 109 (by simp)
  have n5 := hne 99 (by simp); have n6 := hne 115 (by simp); have n7 := hne 100 (by simp)
  rcases (show j = 0 ∨ j = 1 by omega) with rfl | rfl
  · show sixF c [107, 108, 103, 109] 0 = -1
    simp [sixF, n1, n2, n3, n4]
  · show sixF c [99, 115, 100, 109] 0 = -1
    simp [sixF, n4, n5, n6, n7]
theorem idx_step (n j : Nat) (c i : Int32) (m : Mem) (hi : ¬ (4 : Int32) ≤ i) (hb : inb i 4 = true) : J1_indexOfChar_4cfef_L7 (n + 1) j 4 c i m = if sby j i.toNatClampNeg = c then some (i, m) else J1_indexOfChar_4cfef_L7 n j 4 c (i + 1) m := by
  show J1_indexOfChar_4cfef_L7B (J1_indexOfChar_4cfef_L7 n) j 4 c i m = _
  unfold J1_indexOfChar_4cfef_L7B
  rw [if_neg hi, hb, gd_t]
  rfl
theorem idx_loop {k : Nat} (hk : k < 256) {j : Nat} (hj : j < 2) (m : Mem) : J1_indexOfChar_4cfef_L7 FU j 4 (nI k).toInt8.toInt32 0 m = some (sixF (nI k) (bytS.getD j []) 0, m) := by
  have hb := b_eq k hk
  have n1 := hb 107 (by simp); have n2 := hb 108 (by simp); have n3 := hb 103 (by simp); have n4 := hb 109 (by simp)
  have n5 := hb 99 (by simp); have n6 := hb 115 (by simp); have n7 := hb 100 (by simp)
  show J1_indexOfChar_4cfef_L7 (1095 + 1 + 1 + 1 + 1 + 1) j 4 (nI k).toInt8.toInt32 0 m = _
  rw [idx_step _ _ _ _ _ (by decide) (by decide), show (0 : Int32) + 1 = 1 from rfl, idx_step _ _ _ _ _ (by decide) (by decide), show (1 : Int32) + 1 = 2 from rfl, idx_step _ _ _ _ _ (by decide) (by decide), show (2 : Int32) + 1 = 3 from rfl, idx_step _ _ _ _ _ (by decide) (by decide), show (3 : Int32) + 1 = 4 from rfl]
  have hend : J1_indexOfChar_4cfef_L7 (1095 + 1) j 4 (nI k).toInt8.toInt32 4 m = some (-1, m) := rfl
  rw [hend]
  rcases (show j = 0 ∨ j = 1 by omega) with rfl | rfl
  · show (if (107 : Int32) = _ then some ((0 : Int32), m) else if (108 : Int32) = _ then some ((1 : Int32), m) else if (103 : Int32) = _ then some ((2 : Int32), m) else if (109 : Int32) = _ then some ((3 : Int32), m) else _) = some (sixF (nI k) [107, 108, 103, 109] 0, m)
    simp only [n1, n2, n3, n4, sixF]
    split
    · rfl
    · split
      · rfl
      · split
        · rfl
        · split <;> rfl
  · show (if (99 : Int32) = _ then some ((0 : Int32), m) else if (115 : Int32) = _ then some ((1 : Int32), m) else if (100 : Int32) = _ then some ((2 : Int32), m) else if (109 : Int32) = _ then some ((3 : Int32), m) else _) = some (sixF (nI k) [99, 115, 100, 109] 0, m)
    simp only [n4, n5, n6, n7, sixF]
    split
    · rfl
    · split
      · rfl
      · split
        · rfl
        · split <;> rfl
theorem idx_eq {j : Nat} (hj : j < 2) (c : Int32) (m : Mem) : f_J0_indexOf_0f7a4 j c m = some (sixF c (bytS.getD j []) 0, m) := by
  have e1 : f_J0_isLatin1_aae02 j m = some (1, m) := rfl
  have e0 : f_J0_coder_7d493 j m = some (0, m) := rfl
  have e2 : f_J0_length_8abf5 j m = some (4, m) := by
    unfold f_J0_length_8abf5
    rw [e0, cal_some, show isr 4 0 = 4 from by decide]
  have e3 : f_J1_indexOf_4cfef j c 0 4 m = some (sixF c (bytS.getD j []) 0, m) := by
    unfold f_J1_indexOf_4cfef
    rw [enc_eq, cal_some]
    by_cases h : c < 0 ∨ 255 < c
    · rw [if_pos h, six_out h hj]
      rfl
    · rw [if_neg h, if_neg (by decide)]
      obtain ⟨k, hk, rfl⟩ := nI_of2 (x := c) (M := 255) (n := 255) (by decide) (fun q => h (Or.inl q)) (Int32.not_lt.mp (fun q => h (Or.inr q)))
      show cal (f_J1_indexOfChar_4cfef j (nI k) 0 4 m) (fun r m => some (r, m)) = _
      have e4 : f_J1_indexOfChar_4cfef j (nI k) 0 4 m = some (sixF (nI k) (bytS.getD j []) 0, m) := idx_loop (by omega) hj m
      rw [e4]
      rfl
  unfold f_J0_indexOf_0f7a4 f_J0_indexOf_7cf53
  rw [e1, cal_some, if_neg (by decide), e2, cal_some, e3]
  rfl
theorem g_indexOf {K : KT} {cc : ByteArray} {own : String} {nL d pc : Nat} {L : List (Nat × Value)} {st : List Value} {μ : Mem} {X : Res} (C : Cx K cc own nL d) {index : Nat} {k ch : Int32} (hlk : Cond.methodLink own index yJ0_indexOf_0f7a4 ∈ gtbl) (hd : 10 ≤ d) (hr : (st.map fun v => v.category).sum ≤ 8) (dg : decode cc pc = .ok (.invokevirtual index, 3)) (g : G K (pc + 3) L (.int (sidx k ch) :: st) μ X) : G K pc L (.int ch :: .ref (oS (kO K) (if k = 0 then 2 else 3)) :: st) μ X := by
  have hj : (if k = 0 then 0 else 1) < 2 := by split <;> decide
  have he : (if k = 0 then 2 else 3) = 2 + (if k = 0 then 0 else 1) := by split <;> rfl
  have hs : sixF ch (bytS.getD (if k = 0 then 0 else 1) []) 0 = sidx k ch := by unfold sidx; split <;> rfl
  rw [he]
  refine g_use (X' := cal (f_J0_indexOf_0f7a4 (if k = 0 then 0 else 1) ch μ) (fun r m => @ite Res (r = sidx k ch ∧ m = μ) (Classical.propDecidable _) X none)) (fun y hy => ?_) ?_
  · rw [idx_eq hj, cal_some, if_pos ⟨hs, rfl⟩]
    exact hy
  · refine g_callT C hj cv_J0_indexOf_0f7a4 q_513 q_514 (ct_J0_indexOf_0f7a4 _ ch hj μ) hlk (by omega) rfl rfl hr dg (fun r m => ?_)
    by_cases h : r = sidx k ch ∧ m = μ
    · rw [if_pos h, h.1, h.2]
      exact g
    · rw [if_neg h]
      exact g_none
