/-! THE CLAIM OUT OF ONE WALK OF THE LAW'S BODY. Your part is whole_start (and what it stands on); all else here is the same for every law, but numbers. -/
def R_law : String := "LeftLacksLaw"
def lw_P (b : Addr) (xs : List Int32) (args : Array Value) (s : State) : Prop := args = #[.ref b] ∧ s.IntsAt b xs ∧ xs.length ≤ 384 ∧ (Jvm.Cond.and given_1 narrow_1).before args s = true
def lw_Q (_ : Array Value) (s : State) (o : Outcome) (t : State) : Prop := o = .returned (some (.int 1)) ∧ Framed s o t [] 600000 7302250
def lw_Z (below : List Frame) (a : Array Value) (s : State) : State → Prop := fun t => ∃ o, t.status = .running ∧ Ended t below o ∧ lw_Q a s o t
/-- the law's own end, with 1 on the stack, nothing written that was there before, its room as the claim has it -/
theorem lw_ret {p : Program} {l : Launch} {e : Env} {s : State} {m : MethodId} {below : List Frame} {meth : Method} {c : Code} {b : Nat} (hx : p.tables.exec = Jvm.exec) (hb : c.code = code) (hr : meth.sig.returnType = ret) (hlocks : meth.locks = false) {pc : Nat} {H : Heap} {ls : Array Slot} (hdg : decode code pc = .ok (.ireturn, 1)) : W p l e room_1 s m #[Value.ref b] below meth c H [] 600000 7302250 (lw_Z below #[Value.ref b] s) (F0 m pc ls [.int 1]) := by
  intro T hT X
  obtain ⟨fs, hret, hrun, hended, hW, hframe⟩ := X.leave (v := some (.int 1)) (hlocks := hlocks) (fun h => by rw [hr] at h; cases h)
  have hmeth' : T.vm.method? m = some meth := X.method'
  refine ⟨T.setFrames fs, ?_, .returned (some (.int 1)), hrun, hended, rfl, ⟨_, rfl⟩, hW, hframe⟩
  jvm_step X.here [X.here.top, hx, hb, hdg, hmeth', hr, ret, narrow_b1]
  (try refine ⟨rfl, ?_⟩); (try refine ⟨rfl, ?_⟩)
  first | (intro acts; rw [hret _ acts rfl rfl rfl]) | rw [hret _ _ rfl rfl rfl]
  exact Steps.refl _
/-- what holds at the law's entry: the machine, the code, the tables' words (any of lw_tbl by 'hts w (by decide +kernel)'), the script of L ints xs at the cell b, what the Statement gives of the start (any of its parts by flat_of_before) -/
def lw_At (p : Program) (s : State) (m : MethodId) (meth : Method) (c : Code) (b L : Nat) (xs : Nat → Int32) : Prop :=
  p.tables.exec = Jvm.exec ∧ c.code = code ∧ meth.sig.returnType = ret ∧ c.maxLocals = 4 ∧ s.vm.findClass R_law = some m.cls ∧ (∀ w ∈ lw_tbl, w.before #[Value.ref b] s = true) ∧ va_X b L xs s s.heap ∧ b < s.heap.size ∧ meth.locks = false ∧ (Jvm.Cond.and given_1 narrow_1).before #[Value.ref b] s = true
theorem q_20 : (Jvm.Cond.classLink "LeftLacksLaw" (7 : Nat) "LeftLacks") ∈ gtbl := gm 20 (by decide +kernel) rfl
theorem q_21 : (Jvm.Cond.instantiable "LeftLacks" (9 : Nat)) ∈ gtbl := gm 21 (by decide +kernel) rfl
theorem q_22 : (Jvm.Cond.methodLink "LeftLacksLaw" (9 : Nat) ({ cls := "LeftLacks", name := "<init>", desc := "()V" } : Jvm.MethodName)) ∈ gtbl := gm 22 (by decide +kernel) rfl
theorem q_23 : (Jvm.Cond.instanceMethod ({ cls := "LeftLacks", name := "<init>", desc := "()V" } : Jvm.MethodName)) ∈ gtbl := gm 23 (by decide +kernel) rfl
theorem q_913 : (Jvm.Cond.classLink "LeftLacksLaw" (10 : Nat) "LeftLacksModel") ∈ gtbl := gm 913 (by decide +kernel) rfl
theorem q_914 : (Jvm.Cond.instantiable "LeftLacksModel" (20 : Nat)) ∈ gtbl := gm 914 (by decide +kernel) rfl
theorem q_915 : (Jvm.Cond.methodLink "LeftLacksLaw" (12 : Nat) ({ cls := "LeftLacksModel", name := "<init>", desc := "()V" } : Jvm.MethodName)) ∈ gtbl := gm 915 (by decide +kernel) rfl
theorem q_916 : (Jvm.Cond.instanceMethod ({ cls := "LeftLacksModel", name := "<init>", desc := "()V" } : Jvm.MethodName)) ∈ gtbl := gm 916 (by decide +kernel) rfl

def oSf (tA tB : Nat) (adK adV : Nat → Nat) : Nat → Nat := fun k => match k with
  | 0 => tA
  | 1 => tB
  | 2 => adK 0
  | 3 => adK 1
  | 4 => adV 0
  | _ => adV 1
def strT (i : Nat) : Term := if i = 0 then .string "LeftLacks$Reader" 18 else .string "LeftLacks$Reader" 44
theorem a_gd {K : KE} {pc : Nat} {L : List (Nat × Value)} {st : List Value} {E : EW} {X : Option EW} {b : Bool} (g : b = true → GA K pc L st E X) : GA K pc L st E (gd b X) := fun E' hX => g (gd_some hX).1 E' (gd_some hX).2
theorem a_astore_n {K : KE} {cc : ByteArray} {own yn : String} {nL d N S pc : Nat} {L : List (Nat × Value)} {st : List Value} {E : EW} {X : Option EW} (C : CA K cc own yn nL d N S) {j : Fin 4} {i : Nat} {x : Nat} {L' : List (Nat × Value)} (dg : decode cc pc = .ok (.astore_n j, 1)) (hi : (j : Nat) = i) (hn : i < nL) (hL : (i, Value.ref x) :: L.filter (fun q => !(q.1 == i) && !(q.1 + 1 == i && q.2.category == 2)) = L') (g : GA K (pc + 1) L' st E X) : GA K pc L (.ref x :: st) E X := fun E' hX H locs ls hP hz hS hl h1 h2 => lv_astore_n C.x C.b dg hi hl (by rw [C.l]; exact hn) hL (fun ls2 hl2 => g E' hX H locs ls2 hP hz hS hl2 h1 h2)
def lawM (e4 : EW) : Option EW := gd (decide (e4 = EDL)) (some e4)
def lawX : Option EW := gd (decide (([] : EW).length + 1 ≤ 155 ∧ esl [] + 9 ≤ 4266)) (bnd ([] ++ [(8, dfl8)]) (fun e1 => calA e1 155 4266 141 2208 (i_X8 ([] : EW).length (e1.length + 141) (esl e1 + 2208) e1) (fun e2 => gd (decide (e2.length = 142)) (gd (decide (e2.length + 1 ≤ 155 ∧ esl e2 + 20 ≤ 4266)) (bnd (e2 ++ [(9, dfl9)]) (fun e3 => calA e3 155 4266 12 2029 (i_X9 e2.length (e3.length + 12) (esl e3 + 2029) e3) lawM))))))
theorem lawX_eq : lawX = some EDL := by decide +kernel
set_option maxHeartbeats 8000000 in
set_option maxRecDepth 100000 in
theorem whole_start {p : Program} {e : Env} {s : State} {m : MethodId} {below : List Frame} {meth : Method} {c : Code} (l : Launch) (hflags : l.flags = flags0) {b L : Nat} {xs : Nat → Int32} (hL : L ≤ 384) (C0 : lw_At p s m meth c b L xs) : W p l e room_1 s m #[Value.ref b] below meth c s.heap [] 0 0 (lw_Z below #[Value.ref b] s) (entryFrame m ([Value.ref b] : List Value).toArray 4) := by
  obtain ⟨hx, hb, hr, hml, hown, hts, hX, hbl, hlocks, hgv⟩ := id C0
  have htg : ∀ w ∈ gtbl, w.before #[Value.ref b] s = true := fun w hw => hts w (List.mem_filter.mp hw).1
  have hf := flat_of_before _ hgv
  obtain ⟨c0, iS0, hKn0⟩ := u_known (C := RX0) (T := TX0) (N := 4) (n := 4) htg Fx0.2.2.1 (hts (Jvm.Cond.instantiable "LeftLacks$Customer" (4 : Nat)) (List.mem_append_right _ (List.mem_of_getElem? (i := 81) (by decide +kernel))))
  obtain ⟨c1, iS1, hKn1⟩ := u_known (C := RX1) (T := TX1) (N := 3) (n := 3) htg Fx1.2.2.1 (hts (Jvm.Cond.instantiable "LeftLacks$Formula" (3 : Nat)) (List.mem_append_right _ (List.mem_of_getElem? (i := 107) (by decide +kernel))))
  obtain ⟨c2, iS2, hKn2⟩ := u_known (C := RX2) (T := TX2) (N := 9) (n := 9) htg Fx2.2.2.1 (hts (Jvm.Cond.instantiable "LeftLacks$Reader" (9 : Nat)) (List.mem_append_right _ (List.mem_of_getElem? (i := 191) (by decide +kernel))))
  obtain ⟨c3, iS3, hKn3⟩ := u_known (C := RX3) (T := TX3) (N := 7) (n := 7) htg Fx3.2.2.1 (hts (Jvm.Cond.instantiable "LeftLacks$Search" (7 : Nat)) (List.mem_append_right _ (List.mem_of_getElem? (i := 257) (by decide +kernel))))
  obtain ⟨c4, iS4, hKn4⟩ := u_known (C := RX4) (T := TX4) (N := 3) (n := 3) htg Fx4.2.2.1 (hts (Jvm.Cond.instantiable "LeftLacks$Sheet" (3 : Nat)) (List.mem_append_right _ (List.mem_of_getElem? (i := 288) (by decide +kernel))))
  obtain ⟨c5, iS5, hKn5⟩ := u_known (C := RX5) (T := TX5) (N := 6) (n := 6) htg Fx5.2.2.1 (hts (Jvm.Cond.instantiable "LeftLacks$Shop" (6 : Nat)) (List.mem_append_right _ (List.mem_of_getElem? (i := 43) (by decide +kernel))))
  obtain ⟨c6, iS6, hKn6⟩ := u_known (C := RX6) (T := TX6) (N := 6) (n := 6) htg Fx6.2.2.1 (hts (Jvm.Cond.instantiable "LeftLacks$Speaker" (6 : Nat)) (List.mem_append_right _ (List.mem_of_getElem? (i := 229) (by decide +kernel))))
  obtain ⟨c7, iS7, hKn7⟩ := u_known (C := RX7) (T := TX7) (N := 15) (n := 15) htg Fx7.2.2.1 (hts (Jvm.Cond.instantiable "LeftLacks$World" (15 : Nat)) (List.mem_append_right _ (List.mem_of_getElem? (i := 29) (by decide +kernel))))
  obtain ⟨c8, iS8, hKn8⟩ := u_known (C := RX8) (T := TX8) (N := 9) (n := 9) htg Fx8.2.2.1 (hts (Jvm.Cond.instantiable "LeftLacks" (9 : Nat)) (List.mem_append_right _ (List.mem_of_getElem? (i := 21) (by decide +kernel))))
  obtain ⟨c9, iS9, hKn9⟩ := u_known (C := RX9) (T := TX9) (N := 20) (n := 20) htg Fx9.2.2.1 (hts (Jvm.Cond.instantiable "LeftLacksModel" (20 : Nat)) (List.mem_append_right _ (List.mem_of_getElem? (i := 914) (by decide +kernel))))
  obtain ⟨dC, dI, hKc⟩ : ∃ (dC : Nat → ClassId) (dI : Nat → Nat → Nat), ∀ (k : Nat) (q : vw_C), cls10[k]? = some q → u_Kn s q.1 q.2.1 q.2.2 (dC k) (dI k) := by
    refine ⟨fun k => if k = 0 then c0 else if k = 1 then c1 else if k = 2 then c2 else if k = 3 then c3 else if k = 4 then c4 else if k = 5 then c5 else if k = 6 then c6 else if k = 7 then c7 else if k = 8 then c8 else c9, fun k => if k = 0 then iS0 else if k = 1 then iS1 else if k = 2 then iS2 else if k = 3 then iS3 else if k = 4 then iS4 else if k = 5 then iS5 else if k = 6 then iS6 else if k = 7 then iS7 else if k = 8 then iS8 else iS9, ?_⟩
    intro k q hq
    match k, hq with
    | 0, hq => cases hq; exact hKn0
    | 1, hq => cases hq; exact hKn1
    | 2, hq => cases hq; exact hKn2
    | 3, hq => cases hq; exact hKn3
    | 4, hq => cases hq; exact hKn4
    | 5, hq => cases hq; exact hKn5
    | 6, hq => cases hq; exact hKn6
    | 7, hq => cases hq; exact hKn7
    | 8, hq => cases hq; exact hKn8
    | 9, hq => cases hq; exact hKn9
    | k + 10, hq => simp [cls10] at hq
  obtain ⟨cI, kI, compI, i1, i2, i3⟩ := Cond.arrayClass_spec (hts (Jvm.Cond.arrayClass Jvm.ClassFile.FieldType.int) (List.mem_append_right _ (List.mem_of_getElem? (i := 80) (by decide +kernel))))
  obtain ⟨comp0, cA0, kA0, r01, r02, r03, r04, r05⟩ := Cond.arrayOver_spec (hts (Jvm.Cond.arrayOver (Jvm.ClassFile.FieldType.object "LeftLacks$Shop")) (List.mem_append_right _ (List.mem_of_getElem? (i := 35) (by decide +kernel))))
  obtain ⟨comp1, cA1, kA1, r11, r12, r13, r14, r15⟩ := Cond.arrayOver_spec (hts (Jvm.Cond.arrayOver (Jvm.ClassFile.FieldType.object "LeftLacks$Customer")) (List.mem_append_right _ (List.mem_of_getElem? (i := 37) (by decide +kernel))))
  obtain ⟨comp2, cA2, kA2, r21, r22, r23, r24, r25⟩ := Cond.arrayOver_spec (hts (Jvm.Cond.arrayOver (Jvm.ClassFile.FieldType.object "LeftLacks$Formula")) (List.mem_append_right _ (List.mem_of_getElem? (i := 39) (by decide +kernel))))
  obtain ⟨comp3, cA3, kA3, r31, r32, r33, r34, r35⟩ := Cond.arrayOver_spec (hts (Jvm.Cond.arrayOver (Jvm.ClassFile.FieldType.object "LeftLacks$Sheet")) (List.mem_append_right _ (List.mem_of_getElem? (i := 189) (by decide +kernel))))
  obtain ⟨A, hAd⟩ : ∃ A : Nat → Prop, A = (fun q => ∃ l, l < NL ∧ s.heap.size + l = q) := ⟨_, rfl⟩
  have hA : ∀ a : Nat, a < s.heap.size → ¬ A a := by
    intro a ha h
    rw [hAd] at h
    obtain ⟨l, -, h2⟩ := h
    omega
  obtain ⟨tA, a1, a2⟩ := va_Tof (args := #[Value.ref b]) (s := s) (tm := .static "LeftLacks" "ABOVE" "[I") (ty := .int) (N := 7) (f := fun i => .int (aboveF i)) (A := A) (by decide) (hf _ (by decide +kernel)) (va_eqt (hf _ (by decide +kernel))) (fun j hj => va_eqt (by
    rcases (show j = 0 ∨ j = 1 ∨ j = 2 ∨ j = 3 ∨ j = 4 ∨ j = 5 ∨ j = 6 by omega) with rfl | rfl | rfl | rfl | rfl | rfl | rfl <;> exact hf _ (by decide +kernel))) hA
  obtain ⟨tB, b1, b2⟩ := va_Tof (args := #[Value.ref b]) (s := s) (tm := .static "LeftLacks$Speaker" "BODIES" "[I") (ty := .int) (N := 28) (f := fun i => .int (bodiesF i)) (A := A) (by decide) (hf _ (by decide +kernel)) (va_eqt (hf _ (by decide +kernel))) (fun j hj => va_eqt (by
    rcases (show j = 0 ∨ j = 1 ∨ j = 2 ∨ j = 3 ∨ j = 4 ∨ j = 5 ∨ j = 6 ∨ j = 7 ∨ j = 8 ∨ j = 9 ∨ j = 10 ∨ j = 11 ∨ j = 12 ∨ j = 13 ∨ j = 14 ∨ j = 15 ∨ j = 16 ∨ j = 17 ∨ j = 18 ∨ j = 19 ∨ j = 20 ∨ j = 21 ∨ j = 22 ∨ j = 23 ∨ j = 24 ∨ j = 25 ∨ j = 26 ∨ j = 27 by omega) with rfl | rfl | rfl | rfl | rfl | rfl | rfl | rfl | rfl | rfl | rfl | rfl | rfl | rfl | rfl | rfl | rfl | rfl | rfl | rfl | rfl | rfl | rfl | rfl | rfl | rfl | rfl | rfl <;> exact hf _ (by decide +kernel))) hA
  have two : ∀ {i : Nat}, i < 2 → i = 0 ∨ i = 1 := fun h => by omega
  obtain ⟨adK, adV, s1, s2⟩ := vk_Sof (args := #[Value.ref b]) (s := s) (N := 2) (tm := strT) (len := lenS) (byt := bytS) (A := A)
    (fun i hi => by rcases two hi with rfl | rfl <;> decide)
    (fun i hi => by rcases two hi with rfl | rfl <;> exact hf _ (by decide +kernel))
    (fun i hi => by rcases two hi with rfl | rfl <;> exact hf _ (by decide +kernel))
    (fun i hi => by rcases two hi with rfl | rfl <;> exact hf _ (by decide +kernel))
    (fun i hi => by rcases two hi with rfl | rfl <;> exact hf _ (by decide +kernel))
    (fun i hi j hj => by
      rcases two hi with rfl | rfl
      · rcases (show j = 0 ∨ j = 1 ∨ j = 2 ∨ j = 3 by have : lenS.getD 0 0 = 4 := rfl; omega) with rfl | rfl | rfl | rfl <;> exact hf _ (by decide +kernel)
      · rcases (show j = 0 ∨ j = 1 ∨ j = 2 ∨ j = 3 by have : lenS.getD 1 0 = 4 := rfl; omega) with rfl | rfl | rfl | rfl <;> exact hf _ (by decide +kernel))
    (fun i j hi hj hij => by
      rcases two hi with rfl | rfl <;> rcases two hj with rfl | rfl
      · exact absurd rfl hij
      · first | exact Or.inl (hf _ (by decide +kernel)) | exact Or.inr (hf _ (by decide +kernel))
      · first | exact Or.inl (hf _ (by decide +kernel)) | exact Or.inr (hf _ (by decide +kernel))
      · exact absurd rfl hij) hA
  have z1 : va_Z "LeftLacks" "ABOVE" "[I" (.ref tA) A s s.heap := va_Zref (hts (Jvm.Cond.laysStatic "LeftLacks" "ABOVE" "[I") (List.mem_append_right _ (List.mem_of_getElem? (i := 399) (by decide +kernel)))) (hts (Jvm.Cond.initialized "LeftLacks") (List.mem_append_right _ (List.mem_of_getElem? (i := 1) (by decide +kernel)))) a1 hA
  have z2 : va_Z "LeftLacks$Speaker" "BODIES" "[I" (.ref tB) A s s.heap := va_Zref (hts (Jvm.Cond.laysStatic "LeftLacks$Speaker" "BODIES" "[I") (List.mem_append_right _ (List.mem_of_getElem? (i := 798) (by decide +kernel)))) (hts (Jvm.Cond.initialized "LeftLacks$Speaker") (List.mem_append_right _ (List.mem_of_getElem? (i := 8) (by decide +kernel)))) b1 hA
  have z3 : va_Z "java/lang/String" "COMPACT_STRINGS" "Z" (.int 1) A s s.heap := va_Zof (hts (Jvm.Cond.laysStatic "java/lang/String" "COMPACT_STRINGS" "Z") (List.mem_append_right _ (List.mem_of_getElem? (i := 525) (by decide +kernel)))) (hts (Jvm.Cond.initialized "java/lang/String") (List.mem_append_right _ (List.mem_of_getElem? (i := 13) (by decide +kernel)))) (va_eqi (hf _ (by decide +kernel))) hA
  obtain ⟨Ω, hΩ⟩ : ∃ Ω : OT, Ω = (l, fun n => s.heap.size + n, oSf tA tB adK adV, fun k => if k = 0 then cI else if k = 1 then cA0 else if k = 2 then cA1 else if k = 3 then cA2 else cA3, (dC, dI)) := ⟨_, rfl⟩
  have hΩl : Ω.1 = l := by rw [hΩ]
  have hAA : AA Ω = A := by rw [hAd, hΩ]; rfl
  have hSA : STA Ω s s.heap := by
    unfold STA
    rw [hAA]
    subst hΩ
    refine ⟨z1, a2, z2, b2, ⟨fun i hi => ?_, fun i j hi hj he => ?_⟩, z3⟩
    · rcases two hi with rfl | rfl <;> exact s1.1 _ hi
    · refine s1.2 i j hi hj ?_
      rcases two hi with rfl | rfl <;> rcases two hj with rfl | rfl <;> exact he
  have hSB : STB Ω s := by
    subst hΩ
    exact ⟨vk_R.of (A := #[Value.ref b]) (hts (Jvm.Cond.stringRef "LeftLacks$Reader" (18 : Nat) "klgm") (List.mem_append_right _ (List.mem_of_getElem? (i := 196) (by decide +kernel)))) (s2 0 (by decide)), vk_R.of (A := #[Value.ref b]) (hts (Jvm.Cond.stringRef "LeftLacks$Reader" (44 : Nat) "csdm") (List.mem_append_right _ (List.mem_of_getElem? (i := 486) (by decide +kernel)))) (s2 1 (by decide))⟩
  have hNT : NTW s := by
    refine ⟨fun q hq => va_Nw.of rfl (hts _ ?_), va_Nw.of rfl (hts (Jvm.Cond.fieldLinkNest "LeftLacks$Speaker" (51 : Nat) "LeftLacks" "ABOVE" "[I" "LeftLacks") (List.mem_append_right _ (List.mem_of_getElem? (i := 799) (by decide +kernel))))⟩
    have hall : ntM.all (fun q => decide (Cond.methodLinkNest q.1 q.2.1 q.2.2.1 q.2.2.2 ∈ tables_1)) = true := by decide +kernel
    exact List.mem_append_right _ (of_decide_eq_true (List.all_eq_true.mp hall q hq))
  have hAO : AOV s := by
    intro C hC
    simp only [List.mem_cons, List.not_mem_nil, or_false] at hC
    rcases hC with rfl | rfl | rfl | rfl
    · exact va_AO.of (hts (Jvm.Cond.arrayOver (Jvm.ClassFile.FieldType.object "LeftLacks$Shop")) (List.mem_append_right _ (List.mem_of_getElem? (i := 35) (by decide +kernel))))
    · exact va_AO.of (hts (Jvm.Cond.arrayOver (Jvm.ClassFile.FieldType.object "LeftLacks$Customer")) (List.mem_append_right _ (List.mem_of_getElem? (i := 37) (by decide +kernel))))
    · exact va_AO.of (hts (Jvm.Cond.arrayOver (Jvm.ClassFile.FieldType.object "LeftLacks$Formula")) (List.mem_append_right _ (List.mem_of_getElem? (i := 39) (by decide +kernel))))
    · exact va_AO.of (hts (Jvm.Cond.arrayOver (Jvm.ClassFile.FieldType.object "LeftLacks$Sheet")) (List.mem_append_right _ (List.mem_of_getElem? (i := 189) (by decide +kernel))))
  have hK : va_K (oD Ω) cls10 (tys Ω) s := by
    subst hΩ
    refine ⟨hKc, fun k q hk => ?_⟩
    match k, hk with
    | 0, hk => cases hk; exact ⟨fun n z => ⟨fun k h => (by cases h), kI, i2, compI, i3⟩, i1⟩
    | 1, hk => cases hk; exact ⟨fun n z => ⟨fun k h => (by cases h), kA0, r03, comp0, r04⟩, kA0, comp0, r03, r04, r01, r05⟩
    | 2, hk => cases hk; exact ⟨fun n z => ⟨fun k h => (by cases h), kA1, r13, comp1, r14⟩, kA1, comp1, r13, r14, r11, r15⟩
    | 3, hk => cases hk; exact ⟨fun n z => ⟨fun k h => (by cases h), kA2, r23, comp2, r24⟩, kA2, comp2, r23, r24, r21, r25⟩
    | 4, hk => cases hk; exact ⟨fun n z => ⟨fun k h => (by cases h), kA3, r33, comp3, r34⟩, kA3, comp3, r33, r34, r31, r35⟩
    | k + 5, hk => simp [tys] at hk
  have hF : ∀ n, oF Ω n = s.heap.size + n := by intro n; rw [hΩ]
  have hLIN : LIN Ω := fun n => by rw [hF, hF]; omega
  have hPHI : PHI Ω := fun i j _ _ h => by rw [hF, hF] at h; omega
  have hAin : ∀ q, AA Ω q → s.heap.size ≤ q := by
    intro q hq
    obtain ⟨n, -, h⟩ := hq
    rw [hF] at h
    omega
  obtain ⟨μe, hpure⟩ := pure_main L xs hL
  subst hΩl
  have hin0 : oF Ω 0 = s.heap.size := by rw [hF]; rfl
  -- the loop, over the world that was made
  have hloop : ∀ (H : Heap) (locs : List Loc) (ls : Array Slot), va_P (oD Ω) cls10 (cwE Ω EDL) H → H.size = oF Ω 0 + EDL.length → va_S (A0 Ω) s.heap H locs → lv_has ls c.maxLocals [(2, .ref (oF Ω 142)), (1, .ref (oF Ω 0)), (0, .ref b)] → W p Ω.1 e room_1 s m #[Value.ref b] below meth c H locs (EDL.length - 0) (esl EDL - 0) (lw_Z below #[Value.ref b] s) (F0 m 16 ls []) := by
    intro H locs ls hP hz hS hl
    refine va_forget (fun q hq => by have := hS.2.2 q hq; unfold A0 at this; omega) ?_
    let K : KT := ((p, e, room_1, s, m, #[Value.ref b], below, meth, c), Ω, (EDL.length - 0, esl EDL - 0, fun _ _ => lw_Z below #[Value.ref b] s))
    have C : Cx K cL_law RL 4 200 := ⟨hx, hb, hml, hown, htg, hNT, hK, hPHI, hSA, hSB, by show 200 ≤ 2048; omega, by show 64 * 200 ≤ 84000; omega, by show EDL.length - 0 ≤ 600000; rw [ED_len.1]; omega, by show esl EDL - 0 ≤ 7302250; rw [ED_len.2]; omega⟩
    have hlr : ∀ (pc : Nat) (L : List (Nat × Value)) (μ : Mem), decode cL_law pc = .ok (.ireturn, 1) → G K pc L [.int (1 : Int32)] μ (some ((1 : Int32), μ)) := by
      intro pc L μ dg r μ' hX H locs ls hP hS hl
      show W p Ω.1 e room_1 s m #[Value.ref b] below meth c H locs (EDL.length - 0) (esl EDL - 0) (lw_Z below #[Value.ref b] s) (F0 m pc ls [.int 1])
      refine W.widen (k := 600000) (n := 7302250) (by rw [ED_len.1]; omega) (by rw [ED_len.2]; omega) ?_
      refine va_forget (fun q hq => hAin _ (hS.2.2 q hq)) ?_
      exact lw_ret hx hb hr hlocks dg
    have hXL : LX K b L xs := ⟨hX, hbl, fun q => by have := hAin _ q; omega⟩
    have hg : G K 16 [(2, .ref (kf K 142)), (1, .ref (kf K 0)), (0, .ref b)] [] mst (some (1, μe)) := by
      refine g_iconst C (0 : Int32) dL_law_16 rfl ?_
      refine g_istore_n C dL_law_17 rfl (by decide) rfl ?_
      refine g_sub [3, 2, 1, 0] rfl ?_
      rw [← hpure]
      exact s_law_L18 C hXL hlr FU 0 142 (0 : Int32) (by decide +kernel) (by decide +kernel) mst
    exact hg 1 μe rfl H [] ls (start_P hP) ⟨by show s.heap.size ≤ _; omega, fun q h1 h2 => hS.2.1 q h1 (by have h1 : q < s.heap.size := h1; unfold A0; omega), fun q hq => by cases hq⟩ hl
  let K : KE := ((p, e, room_1, s, m, #[Value.ref b], below, meth, c), Ω, (0, 0, fun _ => lw_Z below #[Value.ref b] s))
  have C : CA K cL_law RL meth.name 4 200 155 4266 := ⟨hx, hb, hml, hown, htg, ⟨hNT, hAO⟩, hK, hSB, hLIN, rfl, by show oF Ω 0 ≤ s.heap.size; omega, by show 200 ≤ 2048; omega, by show 64 * 200 ≤ 84000; omega, by show 155 ≤ 0 + 600000; omega, by show 4266 ≤ 0 + 7302250; omega⟩
  have hg : GA K 0 [(0, .ref b)] [] [] lawX := by
    unfold lawX
    refine a_new C Fx8 dfl8 (by decide) (fun _ => rfl) rfl q_20 q_21 q_1 dL_law_0 (fun e1 => ?_)
    refine a_dup C dL_law_3 rfl ?_
    refine a_callI C cvi_X8 q_23 rfl (ca_X8_i _ e1) q_22 (by decide) (Nat.le_of_ble_eq_true rfl) dL_law_4 (fun e2 => ?_)
    refine a_gd (fun h142 => ?_)
    have h142 : e2.length = 142 := of_decide_eq_true h142
    refine a_astore_n C dL_law_7 rfl (by decide) rfl ?_
    refine a_new C Fx9 dfl9 (by decide) (fun _ => rfl) rfl q_913 q_914 q_11 dL_law_8 (fun e3 => ?_)
    refine a_dup C dL_law_11 rfl ?_
    refine a_callI C cvi_X9 q_916 rfl (ca_X9_i _ e3) q_915 (by decide) (Nat.le_of_ble_eq_true rfl) dL_law_12 (fun e4 => ?_)
    refine a_gd (fun h4 => ?_)
    have h4 : e4 = EDL := of_decide_eq_true h4
    subst h4
    refine a_astore_n C dL_law_15 rfl (by decide) rfl ?_
    rw [h142]
    intro E' hE H locs ls hP hz hS hl _ _
    exact hloop H locs ls hP hz hS hl
  have hl := lv_entry ([.ref b]) (n := 4) (Nat.le_of_ble_eq_true rfl)
  rw [lg_entry_eq]
  exact hg EDL lawX_eq s.heap [] _ (fun k q hk => by simp [cwE] at hk) (by show s.heap.size = oF Ω 0 + 0; omega) va_S.rf (by rw [show c.maxLocals = 4 from hml]; exact hl) (Nat.le_refl 0) (Nat.zero_le _)
set_option maxHeartbeats 4000000 in
theorem lw_walk (l : Launch) (hflags : l.flags = flags0) (b : Addr) (xs : List Int32) : MetFree l x (headSpec (Jvm.Cond.code x code maxLocals ret :: tables_1) room_1) (lw_P b xs) (fun _ _ _ _ _ => True) lw_Q := by
  refine MetFree.of_bodyS (code := code) (maxLocals := maxLocals) (ret := ret) (by decide) ?_ ?_
  · intro args s m h hn
    obtain ⟨meth, c, h1, h2, h3, h4, h5, h6, -, -⟩ := Cond.code_spec hn (atoms_spec (ws := Jvm.Cond.code x code maxLocals ret :: tables_1) h _ List.mem_cons_self)
    exact ⟨meth, c, h1, h2, h3, h4, h5, h6⟩
  · intro p e s m args below meth c s₁ B hml0 hP _
    obtain ⟨rfl, hx, hbd, hgv⟩ := hP
    obtain ⟨scr, harrAt, hlist, hof, hsmall⟩ := hx
    obtain ⟨hcb, hkn, -, -⟩ := State.arrayAt?_spec harrAt
    have hown : s.vm.findClass R_law = some m.cls := findClass_of_methodNamed B.named
    have hts0 : ∀ c ∈ (Jvm.Cond.code x code maxLocals ret :: tables_1), c.before #[Value.ref b] s = true := atoms_spec (ws := Jvm.Cond.code x code maxLocals ret :: tables_1) B.pre
    have hts : ∀ w ∈ lw_tbl, w.before #[Value.ref b] s = true := k2_hts_sels lw_privs (fun w hw => hts0 w (List.mem_cons_of_mem _ hw)) lw_privs_ok
    have hml : c.maxLocals = 4 := B.maxLocals_eq (hts0 _ List.mem_cons_self)
    have X₀ : Stand p l e room_1 s m #[Value.ref b] below meth c s₁ [] 0 0 := Stand.of_body B
    have hh0 : s₁.heap = s.heap := by rw [B.state]; rfl
    have hsz : scr.slots.size = xs.length := by rw [← Array.length_toList, hlist, List.length_map]
    have hval : ∀ j : Nat, j < xs.length → scr.slots[j]? = some (.int (xs.getD j 0)) := fun j hj => by
      rw [← Array.getElem?_toList, hlist]
      simp [hj]
    have hbl : b < s.heap.size := (Array.getElem?_eq_some_iff.mp hcb).1
    have hX : va_X b xs.length (fun j => xs.getD j 0) s s.heap := ⟨scr, hcb, hof, hkn, hsz, hval⟩
    have K : W p l e room_1 s m #[Value.ref b] below meth c s₁.heap [] 0 0 (lw_Z below #[Value.ref b] s) (entryFrame m ([Value.ref b] : List Value).toArray 4) := by
      rw [hh0]
      exact whole_start l hflags hbd ⟨B.exec, B.bytes, B.returns, hml, hown, hts, hX, hbl, B.notSynchronized, hgv⟩
    obtain ⟨t, a1, o, b1, b2, b3⟩ := K s₁ rfl X₀
    exact ⟨t, o, a1, b1, b2, b3⟩
theorem lw_pre_spec {args : Array Value} {s : State} (h : (Jvm.Cond.and given_1 narrow_1).before args s = true) (hr : rest_1_c.before args s = true) : ∃ (b : Addr) (xs : List Int32), lw_P b xs args s := by
  have hs := flat_of_before _ h
  have hq := flat_of_before _ hr
  have hc : (Cond.count 1).before args s = true := hs _ (by decide +kernel)
  have harr : (Cond.arrayOf (.arg 0) .int).before args s = true := hs _ (by decide +kernel)
  have hle : (Cond.le (.length (.arg 0)) (.int 384)).before args s = true := hs _ (by decide +kernel)
  have hlen : (Cond.isInt (.length (.arg 0))).before args s = true := hq _ (by decide +kernel)
  have hall : (Cond.all (.arg 0) (.isInt (.elem (.arg 0) (.index 0)))).before args s = true := hq _ (by decide +kernel)
  obtain ⟨b, xs, hb, hx⟩ := State.ints_of_pre rfl harr hlen hall
  have hsm : xs.length < 2 ^ 31 := hx.choose_spec.2.2.2
  have hev : (Term.length (.arg 0)).eval args s none [] s = some (.int xs.length.toInt32) := hx.length_eval hb
  have hv := Cond.le_ints hev (show (Term.int 384).eval args s none [] s = some (.int 384) from rfl)
  have hd : xs.length.toInt32 ≤ 384 := by
    simpa [Cond.before, Cond.holds, hv] using hle
  have hN : xs.length ≤ 384 := (Int32.ofNat_le_ofNat hsm (by decide)).mp (show Int32.ofNat xs.length ≤ Int32.ofNat 384 from hd)
  exact ⟨b, xs, Cond.one_arg hc (show args[0]? = some (.ref b) from hb), hx, hN, h⟩
theorem lw_comes (l : Launch) (hflags : l.flags = flags0) : Comes l x (Jvm.Cond.code x code maxLocals ret :: tables_1) room_1 (fun tb e args s => Calls_1 tb e args s ∧ rest_1 tb e args s ∧ Pre_1 tb e args s)
    (fun _ _ args s o t => lw_Q args s o t) := by
  intro p e ha hc hk s m args below hf hfit hheap happ hpre
  obtain ⟨b, xs, hP⟩ := lw_pre_spec hpre.2.2 hpre.2.1
  obtain ⟨k, o, h1, h2, h3, hQ⟩ := lw_walk l hflags b xs p e ha hc hk s m args below hf ((Spec.applies_iff_loose hf).mp happ).1 hP trivial
  exact ⟨k, o, h1, h2, h3, hQ⟩
theorem lw_frame {s t : State} {o : Outcome} {args : Array Value} (h : Framed s o t [] 600000 7302250) :
    Framed s o t (fieldLocs frame_1_writes args s ++ arrayLocs frame_1_arrays args s ++ staticLocs frame_1_statics s) 600000 7302250 := h
theorem lw_limb (L : Cond) (hL : ∀ (args : Array Value) (s t : State), L.after args s (.returned (some (.int 1))) t = true) :
    ArmFor flags0 classFile x code maxLocals ret World_1 tables_1 room_1 Calls_1 rest_1 Pre_1
      (fun tb e a s o t => postC L tb e a s o t ∧ Framed s o t (fieldLocs frame_1_writes a s ++ arrayLocs frame_1_arrays a s ++ staticLocs frame_1_statics s) 600000 7302250) := by
  intro l hflags _ _ p e ha hc hk s m args below hf hfit hheap happ hpre
  obtain ⟨k, o, h1, h2, h3, rfl, hF⟩ := lw_comes l hflags p e ha hc hk s m args below hf hfit hheap happ hpre
  exact ⟨k, _, h1, h2, h3, hL args s _, lw_frame hF⟩
theorem i_vc : Claimed_1_1 ∧ Claimed_1_2 := ⟨lw_limb limb_1_1 (fun args s t => by simp [limb_1_1, Cond.after, Cond.holds, Cond.value]), lw_limb limb_1_2 (fun args s t => Cond.after_iff.mpr (by
  first | (rw [show limb_1_2 = Cond.eq .result (.int 1) from rfl, Cond.eq_ints (x := 1) (y := 1) rfl rfl]; simp; done) | (simp [limb_1_2, Cond.value, Term.eval]; done)))⟩

