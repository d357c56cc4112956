/-! THE CONSTRUCTORS -/
def elen (E : EW) (l : Nat) : Option Nat := match E[l]? with
  | some (t, vs) => gd (decide (100 ≤ t)) (some vs.length)
  | none => none
theorem a_alenD {K : KE} {cc : ByteArray} {own yn : String} {nL d N S pc : Nat} {L : List (Nat × Value)} {st : List Value} {E : EW} (C : CA K cc own yn nL d N S) {l : Nat} {kx : Nat → Option EW} (dg : decode cc pc = .ok (.arraylength, 1)) (g : ∀ n : Nat, GA K (pc + 1) L (.int (Int32.ofNat n) :: st) E (kx n)) : GA K pc L (.ref (ef K l) :: st) E ((elen E l).bind kx) := by
  intro E' hX
  obtain ⟨n, hn, hX⟩ := Option.bind_eq_some_iff.mp hX
  unfold elen at hn
  cases he : E[l]? with
  | none => rw [he] at hn; cases hn
  | some e =>
    obtain ⟨t, vs⟩ := e
    rw [he] at hn
    obtain ⟨h1, h2⟩ := gd_some hn
    cases h2
    exact a_alen C he (of_decide_eq_true h1) rfl dg (g vs.length) E' hX
theorem q_24 : (Jvm.Cond.code ({ cls := "LeftLacks", name := "<init>", desc := "()V" } : Jvm.MethodName) prog_1_method_1_code (2 : Nat) (Option.none : Option Jvm.ClassFile.FieldType)) ∈ gtbl := gm 24 (by decide +kernel) rfl
theorem q_25 : (Jvm.Cond.methodLink "LeftLacks" (1 : Nat) ({ cls := "java/lang/Object", name := "<init>", desc := "()V" } : Jvm.MethodName)) ∈ gtbl := gm 25 (by decide +kernel) rfl
theorem q_26 : (Jvm.Cond.instanceMethod ({ cls := "java/lang/Object", name := "<init>", desc := "()V" } : Jvm.MethodName)) ∈ gtbl := gm 26 (by decide +kernel) rfl
theorem q_27 : (Jvm.Cond.code ({ cls := "java/lang/Object", name := "<init>", desc := "()V" } : Jvm.MethodName) object_method_1_code (1 : Nat) (Option.none : Option Jvm.ClassFile.FieldType)) ∈ gtbl := gm 27 (by decide +kernel) rfl
theorem q_28 : (Jvm.Cond.classLink "LeftLacks" (7 : Nat) "LeftLacks$World") ∈ gtbl := gm 28 (by decide +kernel) rfl
theorem q_29 : (Jvm.Cond.instantiable "LeftLacks$World" (15 : Nat)) ∈ gtbl := gm 29 (by decide +kernel) rfl
theorem q_30 : (Jvm.Cond.methodLink "LeftLacks" (9 : Nat) ({ cls := "LeftLacks$World", name := "<init>", desc := "()V" } : Jvm.MethodName)) ∈ gtbl := gm 30 (by decide +kernel) rfl
theorem q_31 : (Jvm.Cond.instanceMethod ({ cls := "LeftLacks$World", name := "<init>", desc := "()V" } : Jvm.MethodName)) ∈ gtbl := gm 31 (by decide +kernel) rfl
theorem q_32 : (Jvm.Cond.code ({ cls := "LeftLacks$World", name := "<init>", desc := "()V" } : Jvm.MethodName) prog_9_method_1_code (2 : Nat) (Option.none : Option Jvm.ClassFile.FieldType)) ∈ gtbl := gm 32 (by decide +kernel) rfl
theorem q_33 : (Jvm.Cond.methodLink "LeftLacks$World" (3 : Nat) ({ cls := "java/lang/Object", name := "<init>", desc := "()V" } : Jvm.MethodName)) ∈ gtbl := gm 33 (by decide +kernel) rfl
theorem q_34 : (Jvm.Cond.classLink "LeftLacks$World" (15 : Nat) "LeftLacks$Shop") ∈ gtbl := gm 34 (by decide +kernel) rfl
theorem q_36 : (Jvm.Cond.classLink "LeftLacks$World" (21 : Nat) "LeftLacks$Customer") ∈ gtbl := gm 36 (by decide +kernel) rfl
theorem q_38 : (Jvm.Cond.classLink "LeftLacks$World" (31 : Nat) "LeftLacks$Formula") ∈ gtbl := gm 38 (by decide +kernel) rfl
theorem q_40 : (Jvm.Cond.methodLink "LeftLacks$World" (43 : Nat) ({ cls := "java/util/Arrays", name := "fill", desc := "([II)V" } : Jvm.MethodName)) ∈ gtbl := gm 40 (by decide +kernel) rfl
theorem q_43 : (Jvm.Cond.instantiable "LeftLacks$Shop" (6 : Nat)) ∈ gtbl := gm 43 (by decide +kernel) rfl
theorem q_45 : (Jvm.Cond.instanceMethod ({ cls := "LeftLacks$Shop", name := "<init>", desc := "()V" } : Jvm.MethodName)) ∈ gtbl := gm 45 (by decide +kernel) rfl
theorem q_46 : (Jvm.Cond.code ({ cls := "LeftLacks$Shop", name := "<init>", desc := "()V" } : Jvm.MethodName) prog_7_method_1_code (1 : Nat) (Option.none : Option Jvm.ClassFile.FieldType)) ∈ gtbl := gm 46 (by decide +kernel) rfl
theorem q_47 : (Jvm.Cond.methodLink "LeftLacks$Shop" (3 : Nat) ({ cls := "java/lang/Object", name := "<init>", desc := "()V" } : Jvm.MethodName)) ∈ gtbl := gm 47 (by decide +kernel) rfl
theorem q_80 : (Jvm.Cond.arrayClass Jvm.ClassFile.FieldType.int) ∈ gtbl := gm 80 (by decide +kernel) rfl
theorem q_81 : (Jvm.Cond.instantiable "LeftLacks$Customer" (4 : Nat)) ∈ gtbl := gm 81 (by decide +kernel) rfl
theorem q_83 : (Jvm.Cond.instanceMethod ({ cls := "LeftLacks$Customer", name := "<init>", desc := "()V" } : Jvm.MethodName)) ∈ gtbl := gm 83 (by decide +kernel) rfl
theorem q_84 : (Jvm.Cond.code ({ cls := "LeftLacks$Customer", name := "<init>", desc := "()V" } : Jvm.MethodName) prog_2_method_1_code (1 : Nat) (Option.none : Option Jvm.ClassFile.FieldType)) ∈ gtbl := gm 84 (by decide +kernel) rfl
theorem q_85 : (Jvm.Cond.methodLink "LeftLacks$Customer" (1 : Nat) ({ cls := "java/lang/Object", name := "<init>", desc := "()V" } : Jvm.MethodName)) ∈ gtbl := gm 85 (by decide +kernel) rfl
theorem q_107 : (Jvm.Cond.instantiable "LeftLacks$Formula" (3 : Nat)) ∈ gtbl := gm 107 (by decide +kernel) rfl
theorem q_109 : (Jvm.Cond.instanceMethod ({ cls := "LeftLacks$Formula", name := "<init>", desc := "()V" } : Jvm.MethodName)) ∈ gtbl := gm 109 (by decide +kernel) rfl
theorem q_110 : (Jvm.Cond.code ({ cls := "LeftLacks$Formula", name := "<init>", desc := "()V" } : Jvm.MethodName) prog_3_method_1_code (1 : Nat) (Option.none : Option Jvm.ClassFile.FieldType)) ∈ gtbl := gm 110 (by decide +kernel) rfl
theorem q_111 : (Jvm.Cond.methodLink "LeftLacks$Formula" (3 : Nat) ({ cls := "java/lang/Object", name := "<init>", desc := "()V" } : Jvm.MethodName)) ∈ gtbl := gm 111 (by decide +kernel) rfl
theorem q_188 : (Jvm.Cond.classLink "LeftLacks" (22 : Nat) "LeftLacks$Sheet") ∈ gtbl := gm 188 (by decide +kernel) rfl
theorem q_190 : (Jvm.Cond.classLink "LeftLacks" (28 : Nat) "LeftLacks$Reader") ∈ gtbl := gm 190 (by decide +kernel) rfl
theorem q_191 : (Jvm.Cond.instantiable "LeftLacks$Reader" (9 : Nat)) ∈ gtbl := gm 191 (by decide +kernel) rfl
theorem q_193 : (Jvm.Cond.instanceMethod ({ cls := "LeftLacks$Reader", name := "<init>", desc := "()V" } : Jvm.MethodName)) ∈ gtbl := gm 193 (by decide +kernel) rfl
theorem q_194 : (Jvm.Cond.code ({ cls := "LeftLacks$Reader", name := "<init>", desc := "()V" } : Jvm.MethodName) prog_4_method_1_code (1 : Nat) (Option.none : Option Jvm.ClassFile.FieldType)) ∈ gtbl := gm 194 (by decide +kernel) rfl
theorem q_195 : (Jvm.Cond.methodLink "LeftLacks$Reader" (3 : Nat) ({ cls := "java/lang/Object", name := "<init>", desc := "()V" } : Jvm.MethodName)) ∈ gtbl := gm 195 (by decide +kernel) rfl
theorem q_228 : (Jvm.Cond.classLink "LeftLacks" (35 : Nat) "LeftLacks$Speaker") ∈ gtbl := gm 228 (by decide +kernel) rfl
theorem q_229 : (Jvm.Cond.instantiable "LeftLacks$Speaker" (6 : Nat)) ∈ gtbl := gm 229 (by decide +kernel) rfl
theorem q_231 : (Jvm.Cond.instanceMethod ({ cls := "LeftLacks$Speaker", name := "<init>", desc := "()V" } : Jvm.MethodName)) ∈ gtbl := gm 231 (by decide +kernel) rfl
theorem q_232 : (Jvm.Cond.code ({ cls := "LeftLacks$Speaker", name := "<init>", desc := "()V" } : Jvm.MethodName) prog_8_method_1_code (1 : Nat) (Option.none : Option Jvm.ClassFile.FieldType)) ∈ gtbl := gm 232 (by decide +kernel) rfl
theorem q_233 : (Jvm.Cond.methodLink "LeftLacks$Speaker" (3 : Nat) ({ cls := "java/lang/Object", name := "<init>", desc := "()V" } : Jvm.MethodName)) ∈ gtbl := gm 233 (by decide +kernel) rfl
theorem q_256 : (Jvm.Cond.classLink "LeftLacks" (42 : Nat) "LeftLacks$Search") ∈ gtbl := gm 256 (by decide +kernel) rfl
theorem q_257 : (Jvm.Cond.instantiable "LeftLacks$Search" (7 : Nat)) ∈ gtbl := gm 257 (by decide +kernel) rfl
theorem q_259 : (Jvm.Cond.instanceMethod ({ cls := "LeftLacks$Search", name := "<init>", desc := "()V" } : Jvm.MethodName)) ∈ gtbl := gm 259 (by decide +kernel) rfl
theorem q_260 : (Jvm.Cond.code ({ cls := "LeftLacks$Search", name := "<init>", desc := "()V" } : Jvm.MethodName) prog_5_method_1_code (1 : Nat) (Option.none : Option Jvm.ClassFile.FieldType)) ∈ gtbl := gm 260 (by decide +kernel) rfl
theorem q_261 : (Jvm.Cond.methodLink "LeftLacks$Search" (3 : Nat) ({ cls := "java/lang/Object", name := "<init>", desc := "()V" } : Jvm.MethodName)) ∈ gtbl := gm 261 (by decide +kernel) rfl
theorem q_288 : (Jvm.Cond.instantiable "LeftLacks$Sheet" (3 : Nat)) ∈ gtbl := gm 288 (by decide +kernel) rfl
theorem q_290 : (Jvm.Cond.instanceMethod ({ cls := "LeftLacks$Sheet", name := "<init>", desc := "()V" } : Jvm.MethodName)) ∈ gtbl := gm 290 (by decide +kernel) rfl
theorem q_291 : (Jvm.Cond.code ({ cls := "LeftLacks$Sheet", name := "<init>", desc := "()V" } : Jvm.MethodName) prog_6_method_1_code (1 : Nat) (Option.none : Option Jvm.ClassFile.FieldType)) ∈ gtbl := gm 291 (by decide +kernel) rfl
theorem q_292 : (Jvm.Cond.methodLink "LeftLacks$Sheet" (1 : Nat) ({ cls := "java/lang/Object", name := "<init>", desc := "()V" } : Jvm.MethodName)) ∈ gtbl := gm 292 (by decide +kernel) rfl
theorem q_917 : (Jvm.Cond.code ({ cls := "LeftLacksModel", name := "<init>", desc := "()V" } : Jvm.MethodName) prog_11_method_1_code (2 : Nat) (Option.none : Option Jvm.ClassFile.FieldType)) ∈ gtbl := gm 917 (by decide +kernel) rfl
theorem q_918 : (Jvm.Cond.methodLink "LeftLacksModel" (1 : Nat) ({ cls := "java/lang/Object", name := "<init>", desc := "()V" } : Jvm.MethodName)) ∈ gtbl := gm 918 (by decide +kernel) rfl
def AJ7_fill_53178_L5B (N S : Nat) (t0 : Nat) (k : Nat → Int32 → Int32 → Int32 → EW → Option EW) (a0 : Nat) (x1 : Int32) (x2 : Int32) (x3 : Int32) (e0 : EW) : Option EW :=
  (if x3 ≤ x2 then
  gd (decide (e0.length = N ∧ esl e0 = S)) (some e0)
  else
  (eist e0 a0 t0 x2 x1).bind (fun e2 =>
  bnd (x2 + (1 : Int32)) (fun y3 =>
  k a0 x1 y3 x3 e2)))
def AJ7_fill_53178_L5 (N S : Nat) (t0 : Nat) : Nat → Nat → Int32 → Int32 → Int32 → EW → Option EW
  | 0 => fun _ _ _ _ _ => none
  | n + 1 => AJ7_fill_53178_L5B N S t0 (AJ7_fill_53178_L5 N S t0 n)
set_option maxHeartbeats 2000000 in
theorem s_AJ7_fill_53178_L5B {K : KE} {N S : Nat} (C : CA K cJ7_fill_53178 RJ7 "fill" 4 1 N S) (Rr : RA K N S) (t0 : Nat) {k : Nat → Int32 → Int32 → Int32 → EW → Option EW} (hk : ∀ (a0 : Nat) (x1 : Int32) (x2 : Int32) (x3 : Int32) (e0 : EW), GA K 5 [(0, .ref (ef K a0)), (1, .int x1), (2, .int x2), (3, .int x3)] [] e0 (k a0 x1 x2 x3 e0)) (a0 : Nat) (x1 : Int32) (x2 : Int32) (x3 : Int32) (e0 : EW) : GA K 5 [(0, .ref (ef K a0)), (1, .int x1), (2, .int x2), (3, .int x3)] [] e0 (AJ7_fill_53178_L5B N S t0 k a0 x1 x2 x3 e0) := by
  unfold AJ7_fill_53178_L5B
  refine a_iload_n C dJ7_fill_53178_5 2 rfl rfl ?_
  refine a_iload_n C dJ7_fill_53178_6 3 rfl rfl ?_
  refine a_icmp_ge C 20 dJ7_fill_53178_7 (by decide) ?_ ?_
  · exact a_vret C Rr dJ7_fill_53178_20
  · refine a_aload_n C dJ7_fill_53178_10 0 rfl rfl ?_
    refine a_iload_n C dJ7_fill_53178_11 2 rfl rfl ?_
    refine a_iload_n C dJ7_fill_53178_12 1 rfl rfl ?_
    refine a_iast C dJ7_fill_53178_13 (fun e2 => ?_)
    refine a_iinc (k := 2) C dJ7_fill_53178_14 rfl (w := (1 : Int32)) rfl (by decide) (fun v_ => [(2, .int v_), (0, .ref (ef K a0)), (1, .int x1), (3, .int x3)]) (fun _ => rfl) (fun y3 => ?_)
    refine a_goto C 5 dJ7_fill_53178_17 (by decide) ?_
    refine a_sub [1, 2, 0, 3] rfl ?_
    exact hk a0 x1 y3 x3 e2
theorem s_AJ7_fill_53178_L5 {K : KE} {N S : Nat} (C : CA K cJ7_fill_53178 RJ7 "fill" 4 1 N S) (Rr : RA K N S) (t0 : Nat) : ∀ (n : Nat) (a0 : Nat) (x1 : Int32) (x2 : Int32) (x3 : Int32) (e0 : EW), GA K 5 [(0, .ref (ef K a0)), (1, .int x1), (2, .int x2), (3, .int x3)] [] e0 (AJ7_fill_53178_L5 N S t0 n a0 x1 x2 x3 e0) := by
  intro n
  induction n with
  | zero => intros; exact a_none
  | succ n ih =>
    intro a0 x1 x2 x3 e0
    exact s_AJ7_fill_53178_L5B C Rr t0 ih a0 x1 x2 x3 e0
def i_J7 (t0 : Nat) (a0 : Nat) (x1 : Int32) (N S : Nat) (e0 : EW) : Option EW :=
  (elen e0 a0).bind (fun n1 =>
  AJ7_fill_53178_L5 N S t0 FU a0 x1 (0 : Int32) (Int32.ofNat n1) e0)
set_option maxHeartbeats 2000000 in
theorem s_i_J7 {K : KE} {N S : Nat} (C : CA K cJ7_fill_53178 RJ7 "fill" 4 1 N S) (Rr : RA K N S) (t0 : Nat) (a0 : Nat) (x1 : Int32) (e0 : EW) : GA K 0 [(0, .ref (ef K a0)), (1, .int x1)] [] e0 (i_J7 t0 a0 x1 N S e0) := by
  unfold i_J7
  refine a_iconst C (0 : Int32) dJ7_fill_53178_0 rfl ?_
  refine a_istore_n C dJ7_fill_53178_1 rfl (by decide) rfl ?_
  refine a_aload_n C dJ7_fill_53178_2 1 rfl rfl ?_
  refine a_alenD C dJ7_fill_53178_3 (fun n1 => ?_)
  refine a_istore_n C dJ7_fill_53178_4 rfl (by decide) rfl ?_
  refine a_sub [2, 3, 1, 0] rfl ?_
  exact s_AJ7_fill_53178_L5 C Rr t0 FU a0 x1 (0 : Int32) (Int32.ofNat n1) e0
theorem ca_J7_i {Ω : OT} (t0 : Nat) (a0 : Nat) (x1 : Int32) (e0 : EW) : CtA Ω yJ7_fill_53178 cJ7_fill_53178 4 1 0 0 [.ref (oF Ω a0), .int x1] e0 (i_J7 t0 a0 x1 (e0.length + 0) (esl e0 + 0) e0) := by
  refine CtA_of (by decide) (Nat.le_of_ble_eq_true rfl) ?_
  intro K hK C Rr
  subst hK
  exact s_i_J7 C Rr t0 a0 x1 e0
def i_X0 (a0 : Nat) (N S : Nat) (e0 : EW) : Option EW :=
  gd (decide (e0.length = N ∧ esl e0 = S)) (some e0)
set_option maxHeartbeats 2000000 in
theorem s_i_X0 {K : KE} {N S : Nat} (C : CA K cX0_init RX0 "<init>" 1 1 N S) (Rr : RA K N S) (a0 : Nat) (e0 : EW) : GA K 0 [(0, .ref (ef K a0))] [] e0 (i_X0 a0 N S e0) := by
  unfold i_X0
  refine a_aload_n C dX0_init_0 0 rfl rfl ?_
  refine a_obj C q_85 q_26 q_27 (by decide) (Nat.le_of_ble_eq_true rfl) dX0_init_1 ?_
  exact a_vret C Rr dX0_init_4
theorem ca_X0_i {Ω : OT} (a0 : Nat) (e0 : EW) : CtA Ω yX0_init cX0_init 1 1 0 0 [.ref (oF Ω a0)] e0 (i_X0 a0 (e0.length + 0) (esl e0 + 0) e0) := by
  refine CtA_of (by decide) (Nat.le_of_ble_eq_true rfl) ?_
  intro K hK C Rr
  subst hK
  exact s_i_X0 C Rr a0 e0
theorem cvi_X0 : Cv yX0_init cX0_init 1 none 0 := ⟨q_84, q_5, by decide +kernel, by decide⟩
def i_X1 (a0 : Nat) (N S : Nat) (e0 : EW) : Option EW :=
  gd (decide (e0.length + 1 ≤ N ∧ esl e0 + 60 ≤ S)) (bnd (e0 ++ [(100 + 60, List.replicate 60 (.int 0))]) (fun e1 =>
  (eput e1 a0 1 0 (.ref e0.length)).bind (fun e2 =>
  gd (decide (e2.length + 1 ≤ N ∧ esl e2 + 60 ≤ S)) (bnd (e2 ++ [(100 + 60, List.replicate 60 (.int 0))]) (fun e3 =>
  (eput e3 a0 1 2 (.ref e2.length)).bind (fun e4 =>
  gd (decide (e4.length = N ∧ esl e4 = S)) (some e4)))))))
set_option maxHeartbeats 2000000 in
theorem s_i_X1 {K : KE} {N S : Nat} (C : CA K cX1_init RX1 "<init>" 1 1 N S) (Rr : RA K N S) (a0 : Nat) (e0 : EW) : GA K 0 [(0, .ref (ef K a0))] [] e0 (i_X1 a0 N S e0) := by
  unfold i_X1
  refine a_aload_n C dX1_init_0 0 rfl rfl ?_
  refine a_obj C q_111 q_26 q_27 (by decide) (Nat.le_of_ble_eq_true rfl) dX1_init_1 ?_
  refine a_aload_n C dX1_init_4 0 rfl rfl ?_
  refine a_bipush C (60 : Int32) dX1_init_5 rfl ?_
  refine a_newi (M := 60) C (by decide) (by decide) (by decide) q_80 dX1_init_7 (fun e1 => ?_)
  refine a_put (k := 0) (v := (.ref e0.length)) C Fx1 (by decide) rfl rfl (Or.inr ⟨rfl, rfl, rfl⟩) rfl rfl q_112 dX1_init_9 (fun e2 => ?_)
  refine a_aload_n C dX1_init_12 0 rfl rfl ?_
  refine a_bipush C (60 : Int32) dX1_init_13 rfl ?_
  refine a_newi (M := 60) C (by decide) (by decide) (by decide) q_80 dX1_init_15 (fun e3 => ?_)
  refine a_put (k := 2) (v := (.ref e2.length)) C Fx1 (by decide) rfl rfl (Or.inr ⟨rfl, rfl, rfl⟩) rfl rfl q_117 dX1_init_17 (fun e4 => ?_)
  exact a_vret C Rr dX1_init_20
theorem ca_X1_i {Ω : OT} (a0 : Nat) (e0 : EW) : CtA Ω yX1_init cX1_init 1 1 2 120 [.ref (oF Ω a0)] e0 (i_X1 a0 (e0.length + 2) (esl e0 + 120) e0) := by
  refine CtA_of (by decide) (Nat.le_of_ble_eq_true rfl) ?_
  intro K hK C Rr
  subst hK
  exact s_i_X1 C Rr a0 e0
theorem cvi_X1 : Cv yX1_init cX1_init 1 none 0 := ⟨q_110, q_6, by decide +kernel, by decide⟩
def i_X2 (a0 : Nat) (N S : Nat) (e0 : EW) : Option EW :=
  gd (decide (e0.length + 1 ≤ N ∧ esl e0 + 60 ≤ S)) (bnd (e0 ++ [(100 + 60, List.replicate 60 (.int 0))]) (fun e1 =>
  (eput e1 a0 2 0 (.ref e0.length)).bind (fun e2 =>
  gd (decide (e2.length + 1 ≤ N ∧ esl e2 + 60 ≤ S)) (bnd (e2 ++ [(100 + 60, List.replicate 60 (.int 0))]) (fun e3 =>
  (eput e3 a0 2 2 (.ref e2.length)).bind (fun e4 =>
  (eput e4 a0 2 8 (.long 0)).bind (fun e5 =>
  gd (decide (e5.length = N ∧ esl e5 = S)) (some e5))))))))
set_option maxHeartbeats 2000000 in
theorem s_i_X2 {K : KE} {N S : Nat} (C : CA K cX2_init RX2 "<init>" 1 1 N S) (Rr : RA K N S) (a0 : Nat) (e0 : EW) : GA K 0 [(0, .ref (ef K a0))] [] e0 (i_X2 a0 N S e0) := by
  unfold i_X2
  refine a_aload_n C dX2_init_0 0 rfl rfl ?_
  refine a_obj C q_195 q_26 q_27 (by decide) (Nat.le_of_ble_eq_true rfl) dX2_init_1 ?_
  refine a_aload_n C dX2_init_4 0 rfl rfl ?_
  refine a_bipush C (60 : Int32) dX2_init_5 rfl ?_
  refine a_newi (M := 60) C (by decide) (by decide) (by decide) q_80 dX2_init_7 (fun e1 => ?_)
  refine a_put (k := 0) (v := (.ref e0.length)) C Fx2 (by decide) rfl rfl (Or.inr ⟨rfl, rfl, rfl⟩) rfl rfl q_197 dX2_init_9 (fun e2 => ?_)
  refine a_aload_n C dX2_init_12 0 rfl rfl ?_
  refine a_bipush C (60 : Int32) dX2_init_13 rfl ?_
  refine a_newi (M := 60) C (by decide) (by decide) (by decide) q_80 dX2_init_15 (fun e3 => ?_)
  refine a_put (k := 2) (v := (.ref e2.length)) C Fx2 (by decide) rfl rfl (Or.inr ⟨rfl, rfl, rfl⟩) rfl rfl q_201 dX2_init_17 (fun e4 => ?_)
  refine a_aload_n C dX2_init_20 0 rfl rfl ?_
  refine a_str C dX2_init_21 ?_
  refine a_put (k := 8) (v := (.long 0)) C Fx2 (by decide) rfl rfl (Or.inl rfl) rfl rfl q_207 dX2_init_23 (fun e5 => ?_)
  exact a_vret C Rr dX2_init_26
theorem ca_X2_i {Ω : OT} (a0 : Nat) (e0 : EW) : CtA Ω yX2_init cX2_init 1 1 2 120 [.ref (oF Ω a0)] e0 (i_X2 a0 (e0.length + 2) (esl e0 + 120) e0) := by
  refine CtA_of (by decide) (Nat.le_of_ble_eq_true rfl) ?_
  intro K hK C Rr
  subst hK
  exact s_i_X2 C Rr a0 e0
theorem cvi_X2 : Cv yX2_init cX2_init 1 none 0 := ⟨q_194, q_7, by decide +kernel, by decide⟩
def i_X3 (a0 : Nat) (N S : Nat) (e0 : EW) : Option EW :=
  gd (decide (e0.length + 1 ≤ N ∧ esl e0 + 6 ≤ S)) (bnd (e0 ++ [(100 + 6, List.replicate 6 (.int 0))]) (fun e1 =>
  (eput e1 a0 3 5 (.ref e0.length)).bind (fun e2 =>
  gd (decide (e2.length + 1 ≤ N ∧ esl e2 + 360 ≤ S)) (bnd (e2 ++ [(100 + 360, List.replicate 360 (.int 0))]) (fun e3 =>
  (eput e3 a0 3 6 (.ref e2.length)).bind (fun e4 =>
  gd (decide (e4.length = N ∧ esl e4 = S)) (some e4)))))))
set_option maxHeartbeats 2000000 in
theorem s_i_X3 {K : KE} {N S : Nat} (C : CA K cX3_init RX3 "<init>" 1 1 N S) (Rr : RA K N S) (a0 : Nat) (e0 : EW) : GA K 0 [(0, .ref (ef K a0))] [] e0 (i_X3 a0 N S e0) := by
  unfold i_X3
  refine a_aload_n C dX3_init_0 0 rfl rfl ?_
  refine a_obj C q_261 q_26 q_27 (by decide) (Nat.le_of_ble_eq_true rfl) dX3_init_1 ?_
  refine a_aload_n C dX3_init_4 0 rfl rfl ?_
  refine a_bipush C (6 : Int32) dX3_init_5 rfl ?_
  refine a_newi (M := 6) C (by decide) (by decide) (by decide) q_80 dX3_init_7 (fun e1 => ?_)
  refine a_put (k := 5) (v := (.ref e0.length)) C Fx3 (by decide) rfl rfl (Or.inr ⟨rfl, rfl, rfl⟩) rfl rfl q_271 dX3_init_9 (fun e2 => ?_)
  refine a_aload_n C dX3_init_12 0 rfl rfl ?_
  refine a_sipush C (360 : Int32) dX3_init_13 rfl ?_
  refine a_newi (M := 360) C (by decide) (by decide) (by decide) q_80 dX3_init_16 (fun e3 => ?_)
  refine a_put (k := 6) (v := (.ref e2.length)) C Fx3 (by decide) rfl rfl (Or.inr ⟨rfl, rfl, rfl⟩) rfl rfl q_272 dX3_init_18 (fun e4 => ?_)
  exact a_vret C Rr dX3_init_21
theorem ca_X3_i {Ω : OT} (a0 : Nat) (e0 : EW) : CtA Ω yX3_init cX3_init 1 1 2 366 [.ref (oF Ω a0)] e0 (i_X3 a0 (e0.length + 2) (esl e0 + 366) e0) := by
  refine CtA_of (by decide) (Nat.le_of_ble_eq_true rfl) ?_
  intro K hK C Rr
  subst hK
  exact s_i_X3 C Rr a0 e0
theorem cvi_X3 : Cv yX3_init cX3_init 1 none 0 := ⟨q_260, q_9, by decide +kernel, by decide⟩
def i_X4 (a0 : Nat) (N S : Nat) (e0 : EW) : Option EW :=
  gd (decide (e0.length + 1 ≤ N ∧ esl e0 + 24 ≤ S)) (bnd (e0 ++ [(100 + 24, List.replicate 24 (.int 0))]) (fun e1 =>
  (eput e1 a0 4 2 (.ref e0.length)).bind (fun e2 =>
  gd (decide (e2.length = N ∧ esl e2 = S)) (some e2))))
set_option maxHeartbeats 2000000 in
theorem s_i_X4 {K : KE} {N S : Nat} (C : CA K cX4_init RX4 "<init>" 1 1 N S) (Rr : RA K N S) (a0 : Nat) (e0 : EW) : GA K 0 [(0, .ref (ef K a0))] [] e0 (i_X4 a0 N S e0) := by
  unfold i_X4
  refine a_aload_n C dX4_init_0 0 rfl rfl ?_
  refine a_obj C q_292 q_26 q_27 (by decide) (Nat.le_of_ble_eq_true rfl) dX4_init_1 ?_
  refine a_aload_n C dX4_init_4 0 rfl rfl ?_
  refine a_bipush C (24 : Int32) dX4_init_5 rfl ?_
  refine a_newi (M := 24) C (by decide) (by decide) (by decide) q_80 dX4_init_7 (fun e1 => ?_)
  refine a_put (k := 2) (v := (.ref e0.length)) C Fx4 (by decide) rfl rfl (Or.inr ⟨rfl, rfl, rfl⟩) rfl rfl q_297 dX4_init_9 (fun e2 => ?_)
  exact a_vret C Rr dX4_init_12
theorem ca_X4_i {Ω : OT} (a0 : Nat) (e0 : EW) : CtA Ω yX4_init cX4_init 1 1 1 24 [.ref (oF Ω a0)] e0 (i_X4 a0 (e0.length + 1) (esl e0 + 24) e0) := by
  refine CtA_of (by decide) (Nat.le_of_ble_eq_true rfl) ?_
  intro K hK C Rr
  subst hK
  exact s_i_X4 C Rr a0 e0
theorem cvi_X4 : Cv yX4_init cX4_init 1 none 0 := ⟨q_291, q_10, by decide +kernel, by decide⟩
def i_X5 (a0 : Nat) (N S : Nat) (e0 : EW) : Option EW :=
  gd (decide (e0.length + 1 ≤ N ∧ esl e0 + 6 ≤ S)) (bnd (e0 ++ [(100 + 6, List.replicate 6 (.int 0))]) (fun e1 =>
  (eput e1 a0 5 3 (.ref e0.length)).bind (fun e2 =>
  gd (decide (e2.length + 1 ≤ N ∧ esl e2 + 6 ≤ S)) (bnd (e2 ++ [(100 + 6, List.replicate 6 (.int 0))]) (fun e3 =>
  (eput e3 a0 5 4 (.ref e2.length)).bind (fun e4 =>
  gd (decide (e4.length = N ∧ esl e4 = S)) (some e4)))))))
set_option maxHeartbeats 2000000 in
theorem s_i_X5 {K : KE} {N S : Nat} (C : CA K cX5_init RX5 "<init>" 1 1 N S) (Rr : RA K N S) (a0 : Nat) (e0 : EW) : GA K 0 [(0, .ref (ef K a0))] [] e0 (i_X5 a0 N S e0) := by
  unfold i_X5
  refine a_aload_n C dX5_init_0 0 rfl rfl ?_
  refine a_obj C q_47 q_26 q_27 (by decide) (Nat.le_of_ble_eq_true rfl) dX5_init_1 ?_
  refine a_aload_n C dX5_init_4 0 rfl rfl ?_
  refine a_bipush C (6 : Int32) dX5_init_5 rfl ?_
  refine a_newi (M := 6) C (by decide) (by decide) (by decide) q_80 dX5_init_7 (fun e1 => ?_)
  refine a_put (k := 3) (v := (.ref e0.length)) C Fx5 (by decide) rfl rfl (Or.inr ⟨rfl, rfl, rfl⟩) rfl rfl q_58 dX5_init_9 (fun e2 => ?_)
  refine a_aload_n C dX5_init_12 0 rfl rfl ?_
  refine a_bipush C (6 : Int32) dX5_init_13 rfl ?_
  refine a_newi (M := 6) C (by decide) (by decide) (by decide) q_80 dX5_init_15 (fun e3 => ?_)
  refine a_put (k := 4) (v := (.ref e2.length)) C Fx5 (by decide) rfl rfl (Or.inr ⟨rfl, rfl, rfl⟩) rfl rfl q_61 dX5_init_17 (fun e4 => ?_)
  exact a_vret C Rr dX5_init_20
theorem ca_X5_i {Ω : OT} (a0 : Nat) (e0 : EW) : CtA Ω yX5_init cX5_init 1 1 2 12 [.ref (oF Ω a0)] e0 (i_X5 a0 (e0.length + 2) (esl e0 + 12) e0) := by
  refine CtA_of (by decide) (Nat.le_of_ble_eq_true rfl) ?_
  intro K hK C Rr
  subst hK
  exact s_i_X5 C Rr a0 e0
theorem cvi_X5 : Cv yX5_init cX5_init 1 none 0 := ⟨q_46, q_4, by decide +kernel, by decide⟩
def i_X6 (a0 : Nat) (N S : Nat) (e0 : EW) : Option EW :=
  gd (decide (e0.length + 1 ≤ N ∧ esl e0 + 30 ≤ S)) (bnd (e0 ++ [(100 + 30, List.replicate 30 (.int 0))]) (fun e1 =>
  (eput e1 a0 6 0 (.ref e0.length)).bind (fun e2 =>
  gd (decide (e2.length = N ∧ esl e2 = S)) (some e2))))
set_option maxHeartbeats 2000000 in
theorem s_i_X6 {K : KE} {N S : Nat} (C : CA K cX6_init RX6 "<init>" 1 1 N S) (Rr : RA K N S) (a0 : Nat) (e0 : EW) : GA K 0 [(0, .ref (ef K a0))] [] e0 (i_X6 a0 N S e0) := by
  unfold i_X6
  refine a_aload_n C dX6_init_0 0 rfl rfl ?_
  refine a_obj C q_233 q_26 q_27 (by decide) (Nat.le_of_ble_eq_true rfl) dX6_init_1 ?_
  refine a_aload_n C dX6_init_4 0 rfl rfl ?_
  refine a_bipush C (30 : Int32) dX6_init_5 rfl ?_
  refine a_newi (M := 30) C (by decide) (by decide) (by decide) q_80 dX6_init_7 (fun e1 => ?_)
  refine a_put (k := 0) (v := (.ref e0.length)) C Fx6 (by decide) rfl rfl (Or.inr ⟨rfl, rfl, rfl⟩) rfl rfl q_234 dX6_init_9 (fun e2 => ?_)
  exact a_vret C Rr dX6_init_12
theorem ca_X6_i {Ω : OT} (a0 : Nat) (e0 : EW) : CtA Ω yX6_init cX6_init 1 1 1 30 [.ref (oF Ω a0)] e0 (i_X6 a0 (e0.length + 1) (esl e0 + 30) e0) := by
  refine CtA_of (by decide) (Nat.le_of_ble_eq_true rfl) ?_
  intro K hK C Rr
  subst hK
  exact s_i_X6 C Rr a0 e0
theorem cvi_X6 : Cv yX6_init cX6_init 1 none 0 := ⟨q_232, q_8, by decide +kernel, by decide⟩
def AX7_init_L123B (N S : Nat) (k : Nat → Int32 → EW → Option EW) (a0 : Nat) (x1 : Int32) (e0 : EW) : Option EW :=
  (if (2 : Int32) ≤ x1 then
  gd (decide (e0.length = N ∧ esl e0 = S)) (some e0)
  else
  (egr e0 a0 7 10).bind (fun n26 =>
  gd (decide (e0.length + 1 ≤ N ∧ esl e0 + 3 ≤ S)) (bnd (e0 ++ [(1, [.null, .int 0, .null])]) (fun e27 =>
  calA e27 N S 2 120 (i_X1 e0.length (e27.length + 2) (esl e27 + 120) e27) (fun e28 =>
  (east e28 n26 12 x1 e0.length 1).bind (fun e29 =>
  bnd (x1 + (1 : Int32)) (fun y30 =>
  k a0 y30 e29)))))))
def AX7_init_L123 (N S : Nat) : Nat → Nat → Int32 → EW → Option EW
  | 0 => fun _ _ _ => none
  | n + 1 => AX7_init_L123B N S (AX7_init_L123 N S n)
set_option maxHeartbeats 2000000 in
theorem s_AX7_init_L123B {K : KE} {N S : Nat} (C : CA K cX7_init RX7 "<init>" 2 2 N S) (Rr : RA K N S) {k : Nat → Int32 → EW → Option EW} (hk : ∀ (a0 : Nat) (x1 : Int32) (e0 : EW), GA K 123 [(0, .ref (ef K a0)), (1, .int x1)] [] e0 (k a0 x1 e0)) (a0 : Nat) (x1 : Int32) (e0 : EW) : GA K 123 [(0, .ref (ef K a0)), (1, .int x1)] [] e0 (AX7_init_L123B N S k a0 x1 e0) := by
  unfold AX7_init_L123B
  refine a_iload_n C dX7_init_123 1 rfl rfl ?_
  refine a_iconst C (2 : Int32) dX7_init_124 rfl ?_
  refine a_icmp_ge C 147 dX7_init_125 (by decide) ?_ ?_
  · exact a_vret C Rr dX7_init_147
  · refine a_aload_n C dX7_init_128 0 rfl rfl ?_
    refine a_getr (k := 10) C Fx7 (by decide) rfl q_147 dX7_init_129 (fun n26 => ?_)
    refine a_iload_n C dX7_init_132 1 rfl rfl ?_
    refine a_new C Fx1 [.null, .int 0, .null] (by decide) (fun _ => rfl) rfl q_38 q_107 q_6 dX7_init_133 (fun e27 => ?_)
    refine a_dup C dX7_init_136 rfl ?_
    refine a_callN C cvi_X1 q_109 rfl (ca_X1_i e0.length e27) (by decide +kernel) (by decide) (Nat.le_of_ble_eq_true rfl) dX7_init_137 (fun e28 => ?_)
    refine a_aast C (by decide) (by decide) (by decide) rfl rfl dX7_init_140 (fun e29 => ?_)
    refine a_iinc (k := 1) C dX7_init_141 rfl (w := (1 : Int32)) rfl (by decide) (fun v_ => [(1, .int v_), (0, .ref (ef K a0))]) (fun _ => rfl) (fun y30 => ?_)
    refine a_goto C 123 dX7_init_144 (by decide) ?_
    refine a_sub [1, 0] rfl ?_
    exact hk a0 y30 e29
theorem s_AX7_init_L123 {K : KE} {N S : Nat} (C : CA K cX7_init RX7 "<init>" 2 2 N S) (Rr : RA K N S) : ∀ (n : Nat) (a0 : Nat) (x1 : Int32) (e0 : EW), GA K 123 [(0, .ref (ef K a0)), (1, .int x1)] [] e0 (AX7_init_L123 N S n a0 x1 e0) := by
  intro n
  induction n with
  | zero => intros; exact a_none
  | succ n ih =>
    intro a0 x1 e0
    exact s_AX7_init_L123B C Rr ih a0 x1 e0
def AX7_init_L96B (N S : Nat) (k : Nat → Int32 → EW → Option EW) (a0 : Nat) (x1 : Int32) (e0 : EW) : Option EW :=
  (if (10 : Int32) ≤ x1 then
  AX7_init_L123 N S FU a0 (0 : Int32) e0
  else
  (egr e0 a0 7 5).bind (fun n21 =>
  gd (decide (e0.length + 1 ≤ N ∧ esl e0 + 4 ≤ S)) (bnd (e0 ++ [(0, [.int 0, .int 0, .int 0, .int 0])]) (fun e22 =>
  calA e22 N S 0 0 (i_X0 e0.length (e22.length + 0) (esl e22 + 0) e22) (fun e23 =>
  (east e23 n21 11 x1 e0.length 0).bind (fun e24 =>
  bnd (x1 + (1 : Int32)) (fun y25 =>
  k a0 y25 e24)))))))
def AX7_init_L96 (N S : Nat) : Nat → Nat → Int32 → EW → Option EW
  | 0 => fun _ _ _ => none
  | n + 1 => AX7_init_L96B N S (AX7_init_L96 N S n)
set_option maxHeartbeats 2000000 in
theorem s_AX7_init_L96B {K : KE} {N S : Nat} (C : CA K cX7_init RX7 "<init>" 2 2 N S) (Rr : RA K N S) {k : Nat → Int32 → EW → Option EW} (hk : ∀ (a0 : Nat) (x1 : Int32) (e0 : EW), GA K 96 [(0, .ref (ef K a0)), (1, .int x1)] [] e0 (k a0 x1 e0)) (a0 : Nat) (x1 : Int32) (e0 : EW) : GA K 96 [(0, .ref (ef K a0)), (1, .int x1)] [] e0 (AX7_init_L96B N S k a0 x1 e0) := by
  unfold AX7_init_L96B
  refine a_iload_n C dX7_init_96 1 rfl rfl ?_
  refine a_bipush C (10 : Int32) dX7_init_97 rfl ?_
  refine a_icmp_ge C 121 dX7_init_99 (by decide) ?_ ?_
  · refine a_iconst C (0 : Int32) dX7_init_121 rfl ?_
    refine a_istore_n C dX7_init_122 rfl (by decide) rfl ?_
    refine a_sub [1, 0] rfl ?_
    exact s_AX7_init_L123 C Rr FU a0 (0 : Int32) e0
  · refine a_aload_n C dX7_init_102 0 rfl rfl ?_
    refine a_getr (k := 5) C Fx7 (by decide) rfl q_137 dX7_init_103 (fun n21 => ?_)
    refine a_iload_n C dX7_init_106 1 rfl rfl ?_
    refine a_new C Fx0 [.int 0, .int 0, .int 0, .int 0] (by decide) (fun _ => rfl) rfl q_36 q_81 q_5 dX7_init_107 (fun e22 => ?_)
    refine a_dup C dX7_init_110 rfl ?_
    refine a_callN C cvi_X0 q_83 rfl (ca_X0_i e0.length e22) (by decide +kernel) (by decide) (Nat.le_of_ble_eq_true rfl) dX7_init_111 (fun e23 => ?_)
    refine a_aast C (by decide) (by decide) (by decide) rfl rfl dX7_init_114 (fun e24 => ?_)
    refine a_iinc (k := 1) C dX7_init_115 rfl (w := (1 : Int32)) rfl (by decide) (fun v_ => [(1, .int v_), (0, .ref (ef K a0))]) (fun _ => rfl) (fun y25 => ?_)
    refine a_goto C 96 dX7_init_118 (by decide) ?_
    refine a_sub [1, 0] rfl ?_
    exact hk a0 y25 e24
theorem s_AX7_init_L96 {K : KE} {N S : Nat} (C : CA K cX7_init RX7 "<init>" 2 2 N S) (Rr : RA K N S) : ∀ (n : Nat) (a0 : Nat) (x1 : Int32) (e0 : EW), GA K 96 [(0, .ref (ef K a0)), (1, .int x1)] [] e0 (AX7_init_L96 N S n a0 x1 e0) := by
  intro n
  induction n with
  | zero => intros; exact a_none
  | succ n ih =>
    intro a0 x1 e0
    exact s_AX7_init_L96B C Rr ih a0 x1 e0
def AX7_init_L69B (N S : Nat) (k : Nat → Int32 → EW → Option EW) (a0 : Nat) (x1 : Int32) (e0 : EW) : Option EW :=
  (if (6 : Int32) ≤ x1 then
  AX7_init_L96 N S FU a0 (0 : Int32) e0
  else
  (egr e0 a0 7 3).bind (fun n16 =>
  gd (decide (e0.length + 1 ≤ N ∧ esl e0 + 6 ≤ S)) (bnd (e0 ++ [(5, [.int 0, .int 0, .int 0, .null, .null, .int 0])]) (fun e17 =>
  calA e17 N S 2 12 (i_X5 e0.length (e17.length + 2) (esl e17 + 12) e17) (fun e18 =>
  (east e18 n16 10 x1 e0.length 5).bind (fun e19 =>
  bnd (x1 + (1 : Int32)) (fun y20 =>
  k a0 y20 e19)))))))
def AX7_init_L69 (N S : Nat) : Nat → Nat → Int32 → EW → Option EW
  | 0 => fun _ _ _ => none
  | n + 1 => AX7_init_L69B N S (AX7_init_L69 N S n)
set_option maxHeartbeats 2000000 in
theorem s_AX7_init_L69B {K : KE} {N S : Nat} (C : CA K cX7_init RX7 "<init>" 2 2 N S) (Rr : RA K N S) {k : Nat → Int32 → EW → Option EW} (hk : ∀ (a0 : Nat) (x1 : Int32) (e0 : EW), GA K 69 [(0, .ref (ef K a0)), (1, .int x1)] [] e0 (k a0 x1 e0)) (a0 : Nat) (x1 : Int32) (e0 : EW) : GA K 69 [(0, .ref (ef K a0)), (1, .int x1)] [] e0 (AX7_init_L69B N S k a0 x1 e0) := by
  unfold AX7_init_L69B
  refine a_iload_n C dX7_init_69 1 rfl rfl ?_
  refine a_bipush C (6 : Int32) dX7_init_70 rfl ?_
  refine a_icmp_ge C 94 dX7_init_72 (by decide) ?_ ?_
  · refine a_iconst C (0 : Int32) dX7_init_94 rfl ?_
    refine a_istore_n C dX7_init_95 rfl (by decide) rfl ?_
    refine a_sub [1, 0] rfl ?_
    exact s_AX7_init_L96 C Rr FU a0 (0 : Int32) e0
  · refine a_aload_n C dX7_init_75 0 rfl rfl ?_
    refine a_getr (k := 3) C Fx7 (by decide) rfl q_131 dX7_init_76 (fun n16 => ?_)
    refine a_iload_n C dX7_init_79 1 rfl rfl ?_
    refine a_new C Fx5 [.int 0, .int 0, .int 0, .null, .null, .int 0] (by decide) (fun _ => rfl) rfl q_34 q_43 q_4 dX7_init_80 (fun e17 => ?_)
    refine a_dup C dX7_init_83 rfl ?_
    refine a_callN C cvi_X5 q_45 rfl (ca_X5_i e0.length e17) (by decide +kernel) (by decide) (Nat.le_of_ble_eq_true rfl) dX7_init_84 (fun e18 => ?_)
    refine a_aast C (by decide) (by decide) (by decide) rfl rfl dX7_init_87 (fun e19 => ?_)
    refine a_iinc (k := 1) C dX7_init_88 rfl (w := (1 : Int32)) rfl (by decide) (fun v_ => [(1, .int v_), (0, .ref (ef K a0))]) (fun _ => rfl) (fun y20 => ?_)
    refine a_goto C 69 dX7_init_91 (by decide) ?_
    refine a_sub [1, 0] rfl ?_
    exact hk a0 y20 e19
theorem s_AX7_init_L69 {K : KE} {N S : Nat} (C : CA K cX7_init RX7 "<init>" 2 2 N S) (Rr : RA K N S) : ∀ (n : Nat) (a0 : Nat) (x1 : Int32) (e0 : EW), GA K 69 [(0, .ref (ef K a0)), (1, .int x1)] [] e0 (AX7_init_L69 N S n a0 x1 e0) := by
  intro n
  induction n with
  | zero => intros; exact a_none
  | succ n ih =>
    intro a0 x1 e0
    exact s_AX7_init_L69B C Rr ih a0 x1 e0
def i_X7 (a0 : Nat) (N S : Nat) (e0 : EW) : Option EW :=
  gd (decide (e0.length + 1 ≤ N ∧ esl e0 + 6 ≤ S)) (bnd (e0 ++ [(100 + 6, List.replicate 6 (.int 0))]) (fun e1 =>
  (eput e1 a0 7 0 (.ref e0.length)).bind (fun e2 =>
  gd (decide (e2.length + 1 ≤ N ∧ esl e2 + 6 ≤ S)) (bnd (e2 ++ [(10, List.replicate 6 .null)]) (fun e3 =>
  (eput e3 a0 7 3 (.ref e2.length)).bind (fun e4 =>
  gd (decide (e4.length + 1 ≤ N ∧ esl e4 + 10 ≤ S)) (bnd (e4 ++ [(11, List.replicate 10 .null)]) (fun e5 =>
  (eput e5 a0 7 5 (.ref e4.length)).bind (fun e6 =>
  (eput e6 a0 7 9 (.int (1 : Int32))).bind (fun e7 =>
  gd (decide (e7.length + 1 ≤ N ∧ esl e7 + 2 ≤ S)) (bnd (e7 ++ [(12, List.replicate 2 .null)]) (fun e8 =>
  (eput e8 a0 7 10 (.ref e7.length)).bind (fun e9 =>
  gd (decide (e9.length + 1 ≤ N ∧ esl e9 + 60 ≤ S)) (bnd (e9 ++ [(100 + 60, List.replicate 60 (.int 0))]) (fun e10 =>
  (eput e10 a0 7 11 (.ref e9.length)).bind (fun e11 =>
  gd (decide (e11.length + 1 ≤ N ∧ esl e11 + 24 ≤ S)) (bnd (e11 ++ [(100 + 24, List.replicate 24 (.int 0))]) (fun e12 =>
  (eput e12 a0 7 13 (.ref e11.length)).bind (fun e13 =>
  (egr e13 a0 7 0).bind (fun n14 =>
  calA e13 N S 0 0 (i_J7 106 n14 (5 : Int32) (e13.length + 0) (esl e13 + 0) e13) (fun e15 =>
  AX7_init_L69 N S FU a0 (0 : Int32) e15)))))))))))))))))))))
set_option maxHeartbeats 2000000 in
theorem s_i_X7 {K : KE} {N S : Nat} (C : CA K cX7_init RX7 "<init>" 2 2 N S) (Rr : RA K N S) (a0 : Nat) (e0 : EW) : GA K 0 [(0, .ref (ef K a0))] [] e0 (i_X7 a0 N S e0) := by
  unfold i_X7
  refine a_aload_n C dX7_init_0 0 rfl rfl ?_
  refine a_obj C q_33 q_26 q_27 (by decide) (Nat.le_of_ble_eq_true rfl) dX7_init_1 ?_
  refine a_aload_n C dX7_init_4 0 rfl rfl ?_
  refine a_bipush C (6 : Int32) dX7_init_5 rfl ?_
  refine a_newi (M := 6) C (by decide) (by decide) (by decide) q_80 dX7_init_7 (fun e1 => ?_)
  refine a_put (k := 0) (v := (.ref e0.length)) C Fx7 (by decide) rfl rfl (Or.inr ⟨rfl, rfl, rfl⟩) rfl rfl q_125 dX7_init_9 (fun e2 => ?_)
  refine a_aload_n C dX7_init_12 0 rfl rfl ?_
  refine a_bipush C (6 : Int32) dX7_init_13 rfl ?_
  refine a_newq (M := 6) (t := 10) C (by decide) (by decide) (by decide) (by decide) (by decide) rfl q_34 (by decide) dX7_init_15 (fun e3 => ?_)
  refine a_put (k := 3) (v := (.ref e2.length)) C Fx7 (by decide) rfl rfl (Or.inr ⟨rfl, rfl, rfl⟩) rfl rfl q_131 dX7_init_18 (fun e4 => ?_)
  refine a_aload_n C dX7_init_21 0 rfl rfl ?_
  refine a_bipush C (10 : Int32) dX7_init_22 rfl ?_
  refine a_newq (M := 10) (t := 11) C (by decide) (by decide) (by decide) (by decide) (by decide) rfl q_36 (by decide) dX7_init_24 (fun e5 => ?_)
  refine a_put (k := 5) (v := (.ref e4.length)) C Fx7 (by decide) rfl rfl (Or.inr ⟨rfl, rfl, rfl⟩) rfl rfl q_137 dX7_init_27 (fun e6 => ?_)
  refine a_aload_n C dX7_init_30 0 rfl rfl ?_
  refine a_iconst C (1 : Int32) dX7_init_31 rfl ?_
  refine a_put (k := 9) (v := (.int (1 : Int32))) C Fx7 (by decide) rfl rfl (Or.inl rfl) rfl rfl q_145 dX7_init_32 (fun e7 => ?_)
  refine a_aload_n C dX7_init_35 0 rfl rfl ?_
  refine a_iconst C (2 : Int32) dX7_init_36 rfl ?_
  refine a_newq (M := 2) (t := 12) C (by decide) (by decide) (by decide) (by decide) (by decide) rfl q_38 (by decide) dX7_init_37 (fun e8 => ?_)
  refine a_put (k := 10) (v := (.ref e7.length)) C Fx7 (by decide) rfl rfl (Or.inr ⟨rfl, rfl, rfl⟩) rfl rfl q_147 dX7_init_40 (fun e9 => ?_)
  refine a_aload_n C dX7_init_43 0 rfl rfl ?_
  refine a_bipush C (60 : Int32) dX7_init_44 rfl ?_
  refine a_newi (M := 60) C (by decide) (by decide) (by decide) q_80 dX7_init_46 (fun e10 => ?_)
  refine a_put (k := 11) (v := (.ref e9.length)) C Fx7 (by decide) rfl rfl (Or.inr ⟨rfl, rfl, rfl⟩) rfl rfl q_149 dX7_init_48 (fun e11 => ?_)
  refine a_aload_n C dX7_init_51 0 rfl rfl ?_
  refine a_bipush C (24 : Int32) dX7_init_52 rfl ?_
  refine a_newi (M := 24) C (by decide) (by decide) (by decide) q_80 dX7_init_54 (fun e12 => ?_)
  refine a_put (k := 13) (v := (.ref e11.length)) C Fx7 (by decide) rfl rfl (Or.inr ⟨rfl, rfl, rfl⟩) rfl rfl q_153 dX7_init_56 (fun e13 => ?_)
  refine a_aload_n C dX7_init_59 0 rfl rfl ?_
  refine a_getr (k := 0) C Fx7 (by decide) rfl q_125 dX7_init_60 (fun n14 => ?_)
  refine a_iconst C (5 : Int32) dX7_init_63 rfl ?_
  refine a_callS C cv_J7_fill_53178 q_41 (ca_J7_i 106 n14 (5 : Int32) e13) q_40 (by decide) rfl rfl (Nat.le_of_ble_eq_true rfl) dX7_init_64 (fun e15 => ?_)
  refine a_iconst C (0 : Int32) dX7_init_67 rfl ?_
  refine a_istore_n C dX7_init_68 rfl (by decide) rfl ?_
  refine a_sub [1, 0] rfl ?_
  exact s_AX7_init_L69 C Rr FU a0 (0 : Int32) e15
theorem ca_X7_i {Ω : OT} (a0 : Nat) (e0 : EW) : CtA Ω yX7_init cX7_init 2 2 40 502 [.ref (oF Ω a0)] e0 (i_X7 a0 (e0.length + 40) (esl e0 + 502) e0) := by
  refine CtA_of (by decide) (Nat.le_of_ble_eq_true rfl) ?_
  intro K hK C Rr
  subst hK
  exact s_i_X7 C Rr a0 e0
theorem cvi_X7 : Cv yX7_init cX7_init 2 none 0 := ⟨q_32, q_2, by decide +kernel, by decide⟩
def AX8_init_L88B (N S : Nat) (k : Nat → Int32 → EW → Option EW) (a0 : Nat) (x1 : Int32) (e0 : EW) : Option EW :=
  (if (4 : Int32) ≤ x1 then
  gd (decide (e0.length = N ∧ esl e0 = S)) (some e0)
  else
  (egr e0 a0 8 3).bind (fun n23 =>
  gd (decide (e0.length + 1 ≤ N ∧ esl e0 + 3 ≤ S)) (bnd (e0 ++ [(4, [.int 0, .int 0, .null])]) (fun e24 =>
  calA e24 N S 1 24 (i_X4 e0.length (e24.length + 1) (esl e24 + 24) e24) (fun e25 =>
  (east e25 n23 13 x1 e0.length 4).bind (fun e26 =>
  bnd (x1 + (1 : Int32)) (fun y27 =>
  k a0 y27 e26)))))))
def AX8_init_L88 (N S : Nat) : Nat → Nat → Int32 → EW → Option EW
  | 0 => fun _ _ _ => none
  | n + 1 => AX8_init_L88B N S (AX8_init_L88 N S n)
set_option maxHeartbeats 2000000 in
theorem s_AX8_init_L88B {K : KE} {N S : Nat} (C : CA K cX8_init RX8 "<init>" 2 3 N S) (Rr : RA K N S) {k : Nat → Int32 → EW → Option EW} (hk : ∀ (a0 : Nat) (x1 : Int32) (e0 : EW), GA K 88 [(0, .ref (ef K a0)), (1, .int x1)] [] e0 (k a0 x1 e0)) (a0 : Nat) (x1 : Int32) (e0 : EW) : GA K 88 [(0, .ref (ef K a0)), (1, .int x1)] [] e0 (AX8_init_L88B N S k a0 x1 e0) := by
  unfold AX8_init_L88B
  refine a_iload_n C dX8_init_88 1 rfl rfl ?_
  refine a_iconst C (4 : Int32) dX8_init_89 rfl ?_
  refine a_icmp_ge C 112 dX8_init_90 (by decide) ?_ ?_
  · exact a_vret C Rr dX8_init_112
  · refine a_aload_n C dX8_init_93 0 rfl rfl ?_
    refine a_getr (k := 3) C Fx8 (by decide) rfl q_309 dX8_init_94 (fun n23 => ?_)
    refine a_iload_n C dX8_init_97 1 rfl rfl ?_
    refine a_new C Fx4 [.int 0, .int 0, .null] (by decide) (fun _ => rfl) rfl q_188 q_288 q_10 dX8_init_98 (fun e24 => ?_)
    refine a_dup C dX8_init_101 rfl ?_
    refine a_callN C cvi_X4 q_290 rfl (ca_X4_i e0.length e24) (by decide +kernel) (by decide) (Nat.le_of_ble_eq_true rfl) dX8_init_102 (fun e25 => ?_)
    refine a_aast C (by decide) (by decide) (by decide) rfl rfl dX8_init_105 (fun e26 => ?_)
    refine a_iinc (k := 1) C dX8_init_106 rfl (w := (1 : Int32)) rfl (by decide) (fun v_ => [(1, .int v_), (0, .ref (ef K a0))]) (fun _ => rfl) (fun y27 => ?_)
    refine a_goto C 88 dX8_init_109 (by decide) ?_
    refine a_sub [1, 0] rfl ?_
    exact hk a0 y27 e26
theorem s_AX8_init_L88 {K : KE} {N S : Nat} (C : CA K cX8_init RX8 "<init>" 2 3 N S) (Rr : RA K N S) : ∀ (n : Nat) (a0 : Nat) (x1 : Int32) (e0 : EW), GA K 88 [(0, .ref (ef K a0)), (1, .int x1)] [] e0 (AX8_init_L88 N S n a0 x1 e0) := by
  intro n
  induction n with
  | zero => intros; exact a_none
  | succ n ih =>
    intro a0 x1 e0
    exact s_AX8_init_L88B C Rr ih a0 x1 e0
def i_X8 (a0 : Nat) (N S : Nat) (e0 : EW) : Option EW :=
  gd (decide (e0.length + 1 ≤ N ∧ esl e0 + 15 ≤ S)) (bnd (e0 ++ [(7, [.null, .int 0, .int 0, .null, .int 0, .null, .int 0, .int 0, .int 0, .int 0, .null, .null, .int 0, .null, .int 0])]) (fun e1 =>
  calA e1 N S 40 502 (i_X7 e0.length (e1.length + 40) (esl e1 + 502) e1) (fun e2 =>
  (eput e2 a0 8 0 (.ref e0.length)).bind (fun e3 =>
  gd (decide (e3.length + 1 ≤ N ∧ esl e3 + 15 ≤ S)) (bnd (e3 ++ [(7, [.null, .int 0, .int 0, .null, .int 0, .null, .int 0, .int 0, .int 0, .int 0, .null, .null, .int 0, .null, .int 0])]) (fun e4 =>
  calA e4 N S 40 502 (i_X7 e3.length (e4.length + 40) (esl e4 + 502) e4) (fun e5 =>
  (eput e5 a0 8 1 (.ref e3.length)).bind (fun e6 =>
  gd (decide (e6.length + 1 ≤ N ∧ esl e6 + 15 ≤ S)) (bnd (e6 ++ [(7, [.null, .int 0, .int 0, .null, .int 0, .null, .int 0, .int 0, .int 0, .int 0, .null, .null, .int 0, .null, .int 0])]) (fun e7 =>
  calA e7 N S 40 502 (i_X7 e6.length (e7.length + 40) (esl e7 + 502) e7) (fun e8 =>
  (eput e8 a0 8 2 (.ref e6.length)).bind (fun e9 =>
  gd (decide (e9.length + 1 ≤ N ∧ esl e9 + 4 ≤ S)) (bnd (e9 ++ [(13, List.replicate 4 .null)]) (fun e10 =>
  (eput e10 a0 8 3 (.ref e9.length)).bind (fun e11 =>
  gd (decide (e11.length + 1 ≤ N ∧ esl e11 + 9 ≤ S)) (bnd (e11 ++ [(2, [.null, .int 0, .null, .int 0, .int 0, .int 0, .int 0, .int 0, .null])]) (fun e12 =>
  calA e12 N S 2 120 (i_X2 e11.length (e12.length + 2) (esl e12 + 120) e12) (fun e13 =>
  (eput e13 a0 8 4 (.ref e11.length)).bind (fun e14 =>
  gd (decide (e14.length + 1 ≤ N ∧ esl e14 + 6 ≤ S)) (bnd (e14 ++ [(6, [.null, .int 0, .int 0, .int 0, .int 0, .int 0])]) (fun e15 =>
  calA e15 N S 1 30 (i_X6 e14.length (e15.length + 1) (esl e15 + 30) e15) (fun e16 =>
  (eput e16 a0 8 5 (.ref e14.length)).bind (fun e17 =>
  gd (decide (e17.length + 1 ≤ N ∧ esl e17 + 7 ≤ S)) (bnd (e17 ++ [(3, [.int 0, .int 0, .int 0, .int 0, .int 0, .null, .null])]) (fun e18 =>
  calA e18 N S 2 366 (i_X3 e17.length (e18.length + 2) (esl e18 + 366) e18) (fun e19 =>
  (eput e19 a0 8 6 (.ref e17.length)).bind (fun e20 =>
  gd (decide (e20.length + 1 ≤ N ∧ esl e20 + 7 ≤ S)) (bnd (e20 ++ [(100 + 7, List.replicate 7 (.int 0))]) (fun e21 =>
  (eput e21 a0 8 7 (.ref e20.length)).bind (fun e22 =>
  AX8_init_L88 N S FU a0 (0 : Int32) e22))))))))))))))))))))))))))))))
set_option maxHeartbeats 2000000 in
theorem s_i_X8 {K : KE} {N S : Nat} (C : CA K cX8_init RX8 "<init>" 2 3 N S) (Rr : RA K N S) (a0 : Nat) (e0 : EW) : GA K 0 [(0, .ref (ef K a0))] [] e0 (i_X8 a0 N S e0) := by
  unfold i_X8
  refine a_aload_n C dX8_init_0 0 rfl rfl ?_
  refine a_obj C q_25 q_26 q_27 (by decide) (Nat.le_of_ble_eq_true rfl) dX8_init_1 ?_
  refine a_aload_n C dX8_init_4 0 rfl rfl ?_
  refine a_new C Fx7 [.null, .int 0, .int 0, .null, .int 0, .null, .int 0, .int 0, .int 0, .int 0, .null, .null, .int 0, .null, .int 0] (by decide) (fun _ => rfl) rfl q_28 q_29 q_2 dX8_init_5 (fun e1 => ?_)
  refine a_dup C dX8_init_8 rfl ?_
  refine a_callI C cvi_X7 q_31 rfl (ca_X7_i e0.length e1) q_30 (by decide) (Nat.le_of_ble_eq_true rfl) dX8_init_9 (fun e2 => ?_)
  refine a_put (k := 0) (v := (.ref e0.length)) C Fx8 (by decide) rfl rfl (Or.inr ⟨rfl, rfl, rfl⟩) rfl rfl q_306 dX8_init_12 (fun e3 => ?_)
  refine a_aload_n C dX8_init_15 0 rfl rfl ?_
  refine a_new C Fx7 [.null, .int 0, .int 0, .null, .int 0, .null, .int 0, .int 0, .int 0, .int 0, .null, .null, .int 0, .null, .int 0] (by decide) (fun _ => rfl) rfl q_28 q_29 q_2 dX8_init_16 (fun e4 => ?_)
  refine a_dup C dX8_init_19 rfl ?_
  refine a_callI C cvi_X7 q_31 rfl (ca_X7_i e3.length e4) q_30 (by decide) (Nat.le_of_ble_eq_true rfl) dX8_init_20 (fun e5 => ?_)
  refine a_put (k := 1) (v := (.ref e3.length)) C Fx8 (by decide) rfl rfl (Or.inr ⟨rfl, rfl, rfl⟩) rfl rfl q_307 dX8_init_23 (fun e6 => ?_)
  refine a_aload_n C dX8_init_26 0 rfl rfl ?_
  refine a_new C Fx7 [.null, .int 0, .int 0, .null, .int 0, .null, .int 0, .int 0, .int 0, .int 0, .null, .null, .int 0, .null, .int 0] (by decide) (fun _ => rfl) rfl q_28 q_29 q_2 dX8_init_27 (fun e7 => ?_)
  refine a_dup C dX8_init_30 rfl ?_
  refine a_callI C cvi_X7 q_31 rfl (ca_X7_i e6.length e7) q_30 (by decide) (Nat.le_of_ble_eq_true rfl) dX8_init_31 (fun e8 => ?_)
  refine a_put (k := 2) (v := (.ref e6.length)) C Fx8 (by decide) rfl rfl (Or.inr ⟨rfl, rfl, rfl⟩) rfl rfl q_308 dX8_init_34 (fun e9 => ?_)
  refine a_aload_n C dX8_init_37 0 rfl rfl ?_
  refine a_iconst C (4 : Int32) dX8_init_38 rfl ?_
  refine a_newq (M := 4) (t := 13) C (by decide) (by decide) (by decide) (by decide) (by decide) rfl q_188 (by decide) dX8_init_39 (fun e10 => ?_)
  refine a_put (k := 3) (v := (.ref e9.length)) C Fx8 (by decide) rfl rfl (Or.inr ⟨rfl, rfl, rfl⟩) rfl rfl q_309 dX8_init_42 (fun e11 => ?_)
  refine a_aload_n C dX8_init_45 0 rfl rfl ?_
  refine a_new C Fx2 [.null, .int 0, .null, .int 0, .int 0, .int 0, .int 0, .int 0, .null] (by decide) (fun _ => rfl) rfl q_190 q_191 q_7 dX8_init_46 (fun e12 => ?_)
  refine a_dup C dX8_init_49 rfl ?_
  refine a_callN C cvi_X2 q_193 rfl (ca_X2_i e11.length e12) (by decide +kernel) (by decide) (Nat.le_of_ble_eq_true rfl) dX8_init_50 (fun e13 => ?_)
  refine a_put (k := 4) (v := (.ref e11.length)) C Fx8 (by decide) rfl rfl (Or.inr ⟨rfl, rfl, rfl⟩) rfl rfl q_310 dX8_init_53 (fun e14 => ?_)
  refine a_aload_n C dX8_init_56 0 rfl rfl ?_
  refine a_new C Fx6 [.null, .int 0, .int 0, .int 0, .int 0, .int 0] (by decide) (fun _ => rfl) rfl q_228 q_229 q_8 dX8_init_57 (fun e15 => ?_)
  refine a_dup C dX8_init_60 rfl ?_
  refine a_callN C cvi_X6 q_231 rfl (ca_X6_i e14.length e15) (by decide +kernel) (by decide) (Nat.le_of_ble_eq_true rfl) dX8_init_61 (fun e16 => ?_)
  refine a_put (k := 5) (v := (.ref e14.length)) C Fx8 (by decide) rfl rfl (Or.inr ⟨rfl, rfl, rfl⟩) rfl rfl q_311 dX8_init_64 (fun e17 => ?_)
  refine a_aload_n C dX8_init_67 0 rfl rfl ?_
  refine a_new C Fx3 [.int 0, .int 0, .int 0, .int 0, .int 0, .null, .null] (by decide) (fun _ => rfl) rfl q_256 q_257 q_9 dX8_init_68 (fun e18 => ?_)
  refine a_dup C dX8_init_71 rfl ?_
  refine a_callN C cvi_X3 q_259 rfl (ca_X3_i e17.length e18) (by decide +kernel) (by decide) (Nat.le_of_ble_eq_true rfl) dX8_init_72 (fun e19 => ?_)
  refine a_put (k := 6) (v := (.ref e17.length)) C Fx8 (by decide) rfl rfl (Or.inr ⟨rfl, rfl, rfl⟩) rfl rfl q_312 dX8_init_75 (fun e20 => ?_)
  refine a_aload_n C dX8_init_78 0 rfl rfl ?_
  refine a_bipush C (7 : Int32) dX8_init_79 rfl ?_
  refine a_newi (M := 7) C (by decide) (by decide) (by decide) q_80 dX8_init_81 (fun e21 => ?_)
  refine a_put (k := 7) (v := (.ref e20.length)) C Fx8 (by decide) rfl rfl (Or.inr ⟨rfl, rfl, rfl⟩) rfl rfl q_313 dX8_init_83 (fun e22 => ?_)
  refine a_iconst C (0 : Int32) dX8_init_86 rfl ?_
  refine a_istore_n C dX8_init_87 rfl (by decide) rfl ?_
  refine a_sub [1, 0] rfl ?_
  exact s_AX8_init_L88 C Rr FU a0 (0 : Int32) e22
theorem ca_X8_i {Ω : OT} (a0 : Nat) (e0 : EW) : CtA Ω yX8_init cX8_init 2 3 141 2208 [.ref (oF Ω a0)] e0 (i_X8 a0 (e0.length + 141) (esl e0 + 2208) e0) := by
  refine CtA_of (by decide) (Nat.le_of_ble_eq_true rfl) ?_
  intro K hK C Rr
  subst hK
  exact s_i_X8 C Rr a0 e0
theorem cvi_X8 : Cv yX8_init cX8_init 2 none 0 := ⟨q_24, q_1, by decide +kernel, by decide⟩
def AX9_init_L112B (N S : Nat) (k : Nat → Int32 → EW → Option EW) (a0 : Nat) (x1 : Int32) (e0 : EW) : Option EW :=
  (if (6 : Int32) ≤ x1 then
  gd (decide (e0.length = N ∧ esl e0 = S)) (some e0)
  else
  (egr e0 a0 9 0).bind (fun n27 =>
  (eist e0 n27 616 ((10 : Int32) + x1) (5 : Int32)).bind (fun e28 =>
  bnd (x1 + (1 : Int32)) (fun y29 =>
  k a0 y29 e28))))
def AX9_init_L112 (N S : Nat) : Nat → Nat → Int32 → EW → Option EW
  | 0 => fun _ _ _ => none
  | n + 1 => AX9_init_L112B N S (AX9_init_L112 N S n)
set_option maxHeartbeats 2000000 in
theorem s_AX9_init_L112B {K : KE} {N S : Nat} (C : CA K cX9_init RX9 "<init>" 2 1 N S) (Rr : RA K N S) {k : Nat → Int32 → EW → Option EW} (hk : ∀ (a0 : Nat) (x1 : Int32) (e0 : EW), GA K 112 [(0, .ref (ef K a0)), (1, .int x1)] [] e0 (k a0 x1 e0)) (a0 : Nat) (x1 : Int32) (e0 : EW) : GA K 112 [(0, .ref (ef K a0)), (1, .int x1)] [] e0 (AX9_init_L112B N S k a0 x1 e0) := by
  unfold AX9_init_L112B
  refine a_iload_n C dX9_init_112 1 rfl rfl ?_
  refine a_bipush C (6 : Int32) dX9_init_113 rfl ?_
  refine a_icmp_ge C 134 dX9_init_115 (by decide) ?_ ?_
  · exact a_vret C Rr dX9_init_134
  · refine a_aload_n C dX9_init_118 0 rfl rfl ?_
    refine a_getr (k := 0) C Fx9 (by decide) rfl q_919 dX9_init_119 (fun n27 => ?_)
    refine a_bipush C (10 : Int32) dX9_init_122 rfl ?_
    refine a_iload_n C dX9_init_124 1 rfl rfl ?_
    refine a_iadd C dX9_init_125 ?_
    refine a_iconst C (5 : Int32) dX9_init_126 rfl ?_
    refine a_iast C dX9_init_127 (fun e28 => ?_)
    refine a_iinc (k := 1) C dX9_init_128 rfl (w := (1 : Int32)) rfl (by decide) (fun v_ => [(1, .int v_), (0, .ref (ef K a0))]) (fun _ => rfl) (fun y29 => ?_)
    refine a_goto C 112 dX9_init_131 (by decide) ?_
    refine a_sub [1, 0] rfl ?_
    exact hk a0 y29 e28
theorem s_AX9_init_L112 {K : KE} {N S : Nat} (C : CA K cX9_init RX9 "<init>" 2 1 N S) (Rr : RA K N S) : ∀ (n : Nat) (a0 : Nat) (x1 : Int32) (e0 : EW), GA K 112 [(0, .ref (ef K a0)), (1, .int x1)] [] e0 (AX9_init_L112 N S n a0 x1 e0) := by
  intro n
  induction n with
  | zero => intros; exact a_none
  | succ n ih =>
    intro a0 x1 e0
    exact s_AX9_init_L112B C Rr ih a0 x1 e0
def i_X9 (a0 : Nat) (N S : Nat) (e0 : EW) : Option EW :=
  gd (decide (e0.length + 1 ≤ N ∧ esl e0 + 516 ≤ S)) (bnd (e0 ++ [(100 + 516, List.replicate 516 (.int 0))]) (fun e1 =>
  (eput e1 a0 9 0 (.ref e0.length)).bind (fun e2 =>
  gd (decide (e2.length + 1 ≤ N ∧ esl e2 + 516 ≤ S)) (bnd (e2 ++ [(100 + 516, List.replicate 516 (.int 0))]) (fun e3 =>
  (eput e3 a0 9 1 (.ref e2.length)).bind (fun e4 =>
  gd (decide (e4.length + 1 ≤ N ∧ esl e4 + 516 ≤ S)) (bnd (e4 ++ [(100 + 516, List.replicate 516 (.int 0))]) (fun e5 =>
  (eput e5 a0 9 2 (.ref e4.length)).bind (fun e6 =>
  gd (decide (e6.length + 1 ≤ N ∧ esl e6 + 7 ≤ S)) (bnd (e6 ++ [(100 + 7, List.replicate 7 (.int 0))]) (fun e7 =>
  (eput e7 a0 9 4 (.ref e6.length)).bind (fun e8 =>
  gd (decide (e8.length + 1 ≤ N ∧ esl e8 + 124 ≤ S)) (bnd (e8 ++ [(100 + 124, List.replicate 124 (.int 0))]) (fun e9 =>
  (eput e9 a0 9 9 (.ref e8.length)).bind (fun e10 =>
  gd (decide (e10.length + 1 ≤ N ∧ esl e10 + 128 ≤ S)) (bnd (e10 ++ [(100 + 128, List.replicate 128 (.int 0))]) (fun e11 =>
  (eput e11 a0 9 10 (.ref e10.length)).bind (fun e12 =>
  gd (decide (e12.length + 1 ≤ N ∧ esl e12 + 64 ≤ S)) (bnd (e12 ++ [(100 + 64, List.replicate 64 (.int 0))]) (fun e13 =>
  (eput e13 a0 9 11 (.ref e12.length)).bind (fun e14 =>
  gd (decide (e14.length + 1 ≤ N ∧ esl e14 + 30 ≤ S)) (bnd (e14 ++ [(100 + 30, List.replicate 30 (.int 0))]) (fun e15 =>
  (eput e15 a0 9 12 (.ref e14.length)).bind (fun e16 =>
  gd (decide (e16.length + 1 ≤ N ∧ esl e16 + 4 ≤ S)) (bnd (e16 ++ [(100 + 4, List.replicate 4 (.int 0))]) (fun e17 =>
  (eput e17 a0 9 16 (.ref e16.length)).bind (fun e18 =>
  gd (decide (e18.length + 1 ≤ N ∧ esl e18 + 4 ≤ S)) (bnd (e18 ++ [(100 + 4, List.replicate 4 (.int 0))]) (fun e19 =>
  (eput e19 a0 9 17 (.ref e18.length)).bind (fun e20 =>
  gd (decide (e20.length + 1 ≤ N ∧ esl e20 + 96 ≤ S)) (bnd (e20 ++ [(100 + 96, List.replicate 96 (.int 0))]) (fun e21 =>
  (eput e21 a0 9 18 (.ref e20.length)).bind (fun e22 =>
  gd (decide (e22.length + 1 ≤ N ∧ esl e22 + 24 ≤ S)) (bnd (e22 ++ [(100 + 24, List.replicate 24 (.int 0))]) (fun e23 =>
  (eput e23 a0 9 19 (.ref e22.length)).bind (fun e24 =>
  (egr e24 a0 9 0).bind (fun n25 =>
  (eist e24 n25 616 (8 : Int32) (1 : Int32)).bind (fun e26 =>
  AX9_init_L112 N S FU a0 (0 : Int32) e26))))))))))))))))))))))))))))))))))))))
set_option maxHeartbeats 2000000 in
theorem s_i_X9 {K : KE} {N S : Nat} (C : CA K cX9_init RX9 "<init>" 2 1 N S) (Rr : RA K N S) (a0 : Nat) (e0 : EW) : GA K 0 [(0, .ref (ef K a0))] [] e0 (i_X9 a0 N S e0) := by
  unfold i_X9
  refine a_aload_n C dX9_init_0 0 rfl rfl ?_
  refine a_obj C q_918 q_26 q_27 (by decide) (Nat.le_of_ble_eq_true rfl) dX9_init_1 ?_
  refine a_aload_n C dX9_init_4 0 rfl rfl ?_
  refine a_sipush C (516 : Int32) dX9_init_5 rfl ?_
  refine a_newi (M := 516) C (by decide) (by decide) (by decide) q_80 dX9_init_8 (fun e1 => ?_)
  refine a_put (k := 0) (v := (.ref e0.length)) C Fx9 (by decide) rfl rfl (Or.inr ⟨rfl, rfl, rfl⟩) rfl rfl q_919 dX9_init_10 (fun e2 => ?_)
  refine a_aload_n C dX9_init_13 0 rfl rfl ?_
  refine a_sipush C (516 : Int32) dX9_init_14 rfl ?_
  refine a_newi (M := 516) C (by decide) (by decide) (by decide) q_80 dX9_init_17 (fun e3 => ?_)
  refine a_put (k := 1) (v := (.ref e2.length)) C Fx9 (by decide) rfl rfl (Or.inr ⟨rfl, rfl, rfl⟩) rfl rfl q_920 dX9_init_19 (fun e4 => ?_)
  refine a_aload_n C dX9_init_22 0 rfl rfl ?_
  refine a_sipush C (516 : Int32) dX9_init_23 rfl ?_
  refine a_newi (M := 516) C (by decide) (by decide) (by decide) q_80 dX9_init_26 (fun e5 => ?_)
  refine a_put (k := 2) (v := (.ref e4.length)) C Fx9 (by decide) rfl rfl (Or.inr ⟨rfl, rfl, rfl⟩) rfl rfl q_921 dX9_init_28 (fun e6 => ?_)
  refine a_aload_n C dX9_init_31 0 rfl rfl ?_
  refine a_bipush C (7 : Int32) dX9_init_32 rfl ?_
  refine a_newi (M := 7) C (by decide) (by decide) (by decide) q_80 dX9_init_34 (fun e7 => ?_)
  refine a_put (k := 4) (v := (.ref e6.length)) C Fx9 (by decide) rfl rfl (Or.inr ⟨rfl, rfl, rfl⟩) rfl rfl q_923 dX9_init_36 (fun e8 => ?_)
  refine a_aload_n C dX9_init_39 0 rfl rfl ?_
  refine a_bipush C (124 : Int32) dX9_init_40 rfl ?_
  refine a_newi (M := 124) C (by decide) (by decide) (by decide) q_80 dX9_init_42 (fun e9 => ?_)
  refine a_put (k := 9) (v := (.ref e8.length)) C Fx9 (by decide) rfl rfl (Or.inr ⟨rfl, rfl, rfl⟩) rfl rfl q_928 dX9_init_44 (fun e10 => ?_)
  refine a_aload_n C dX9_init_47 0 rfl rfl ?_
  refine a_sipush C (128 : Int32) dX9_init_48 rfl ?_
  refine a_newi (M := 128) C (by decide) (by decide) (by decide) q_80 dX9_init_51 (fun e11 => ?_)
  refine a_put (k := 10) (v := (.ref e10.length)) C Fx9 (by decide) rfl rfl (Or.inr ⟨rfl, rfl, rfl⟩) rfl rfl q_929 dX9_init_53 (fun e12 => ?_)
  refine a_aload_n C dX9_init_56 0 rfl rfl ?_
  refine a_bipush C (64 : Int32) dX9_init_57 rfl ?_
  refine a_newi (M := 64) C (by decide) (by decide) (by decide) q_80 dX9_init_59 (fun e13 => ?_)
  refine a_put (k := 11) (v := (.ref e12.length)) C Fx9 (by decide) rfl rfl (Or.inr ⟨rfl, rfl, rfl⟩) rfl rfl q_930 dX9_init_61 (fun e14 => ?_)
  refine a_aload_n C dX9_init_64 0 rfl rfl ?_
  refine a_bipush C (30 : Int32) dX9_init_65 rfl ?_
  refine a_newi (M := 30) C (by decide) (by decide) (by decide) q_80 dX9_init_67 (fun e15 => ?_)
  refine a_put (k := 12) (v := (.ref e14.length)) C Fx9 (by decide) rfl rfl (Or.inr ⟨rfl, rfl, rfl⟩) rfl rfl q_931 dX9_init_69 (fun e16 => ?_)
  refine a_aload_n C dX9_init_72 0 rfl rfl ?_
  refine a_iconst C (4 : Int32) dX9_init_73 rfl ?_
  refine a_newi (M := 4) C (by decide) (by decide) (by decide) q_80 dX9_init_74 (fun e17 => ?_)
  refine a_put (k := 16) (v := (.ref e16.length)) C Fx9 (by decide) rfl rfl (Or.inr ⟨rfl, rfl, rfl⟩) rfl rfl q_935 dX9_init_76 (fun e18 => ?_)
  refine a_aload_n C dX9_init_79 0 rfl rfl ?_
  refine a_iconst C (4 : Int32) dX9_init_80 rfl ?_
  refine a_newi (M := 4) C (by decide) (by decide) (by decide) q_80 dX9_init_81 (fun e19 => ?_)
  refine a_put (k := 17) (v := (.ref e18.length)) C Fx9 (by decide) rfl rfl (Or.inr ⟨rfl, rfl, rfl⟩) rfl rfl q_936 dX9_init_83 (fun e20 => ?_)
  refine a_aload_n C dX9_init_86 0 rfl rfl ?_
  refine a_bipush C (96 : Int32) dX9_init_87 rfl ?_
  refine a_newi (M := 96) C (by decide) (by decide) (by decide) q_80 dX9_init_89 (fun e21 => ?_)
  refine a_put (k := 18) (v := (.ref e20.length)) C Fx9 (by decide) rfl rfl (Or.inr ⟨rfl, rfl, rfl⟩) rfl rfl q_937 dX9_init_91 (fun e22 => ?_)
  refine a_aload_n C dX9_init_94 0 rfl rfl ?_
  refine a_bipush C (24 : Int32) dX9_init_95 rfl ?_
  refine a_newi (M := 24) C (by decide) (by decide) (by decide) q_80 dX9_init_97 (fun e23 => ?_)
  refine a_put (k := 19) (v := (.ref e22.length)) C Fx9 (by decide) rfl rfl (Or.inr ⟨rfl, rfl, rfl⟩) rfl rfl q_938 dX9_init_99 (fun e24 => ?_)
  refine a_aload_n C dX9_init_102 0 rfl rfl ?_
  refine a_getr (k := 0) C Fx9 (by decide) rfl q_919 dX9_init_103 (fun n25 => ?_)
  refine a_bipush C (8 : Int32) dX9_init_106 rfl ?_
  refine a_iconst C (1 : Int32) dX9_init_108 rfl ?_
  refine a_iast C dX9_init_109 (fun e26 => ?_)
  refine a_iconst C (0 : Int32) dX9_init_110 rfl ?_
  refine a_istore_n C dX9_init_111 rfl (by decide) rfl ?_
  refine a_sub [1, 0] rfl ?_
  exact s_AX9_init_L112 C Rr FU a0 (0 : Int32) e26
theorem ca_X9_i {Ω : OT} (a0 : Nat) (e0 : EW) : CtA Ω yX9_init cX9_init 2 1 12 2029 [.ref (oF Ω a0)] e0 (i_X9 a0 (e0.length + 12) (esl e0 + 2029) e0) := by
  refine CtA_of (by decide) (Nat.le_of_ble_eq_true rfl) ?_
  intro K hK C Rr
  subst hK
  exact s_i_X9 C Rr a0 e0
theorem cvi_X9 : Cv yX9_init cX9_init 2 none 0 := ⟨q_917, q_11, by decide +kernel, by decide⟩
