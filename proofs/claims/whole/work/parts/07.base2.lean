/-! BASE 2: the judgement G over the machine, and a row an instruction -/
def aboveF (i : Nat) : Int32 := [-1, 0, 0, 0, 1, 2, 0].getD i 0
def bodiesF (i : Nat) : Int32 := [10, 11, 12, 13, 20, 0, 0, 21, 0, 30, 0, 0, 0, 0, 40, 0, 50, 0, 51, 0, 0, 60, 0, 0, 70, 71, 0, 0].getD i 0
def lenS : List Nat := [4, 4]
def bytS : List (List Int32) := [[107, 108, 103, 109], [99, 115, 100, 109]]
/-- what lies in the old heap and is only read -/
def STA (Ω : OT) (U : State) (H : Heap) : Prop :=
  va_Z "LeftLacks" "ABOVE" "[I" (.ref (oS Ω 0)) (AA Ω) U H ∧ va_T .int (oS Ω 0) 7 (fun i => .int (aboveF i)) (AA Ω) U H ∧
  va_Z "LeftLacks$Speaker" "BODIES" "[I" (.ref (oS Ω 1)) (AA Ω) U H ∧ va_T .int (oS Ω 1) 28 (fun i => .int (bodiesF i)) (AA Ω) U H ∧
  vk_S 2 lenS bytS (fun i => oS Ω (2 + i)) (fun i => oS Ω (4 + i)) (AA Ω) U H ∧ va_Z "java/lang/String" "COMPACT_STRINGS" "Z" (.int 1) (AA Ω) U H
def STB (Ω : OT) (U : State) : Prop := vk_R "LeftLacks$Reader" 18 "klgm" (oS Ω 2) U ∧ vk_R "LeftLacks$Reader" 44 "csdm" (oS Ω 3) U
/-- the links between the nested classes -/
def ntM : List (String × Nat × MethodName × String) := [("LeftLacks$World", 49, ⟨"LeftLacks$Shop", "<init>", "()V"⟩, "LeftLacks"), ("LeftLacks$World", 50, ⟨"LeftLacks$Customer", "<init>", "()V"⟩, "LeftLacks"), ("LeftLacks$World", 51, ⟨"LeftLacks$Formula", "<init>", "()V"⟩, "LeftLacks"), ("LeftLacks", 30, ⟨"LeftLacks$Reader", "<init>", "()V"⟩, "LeftLacks"), ("LeftLacks", 37, ⟨"LeftLacks$Speaker", "<init>", "()V"⟩, "LeftLacks"), ("LeftLacks", 44, ⟨"LeftLacks$Search", "<init>", "()V"⟩, "LeftLacks"), ("LeftLacks", 53, ⟨"LeftLacks$Sheet", "<init>", "()V"⟩, "LeftLacks"), ("LeftLacks$World", 98, ⟨"LeftLacks", "within", "(III)Z"⟩, "LeftLacks"), ("LeftLacks$Shop", 43, ⟨"LeftLacks", "within", "(III)Z"⟩, "LeftLacks"), ("LeftLacks$World", 160, ⟨"LeftLacks", "hold", "(III)I"⟩, "LeftLacks"), ("LeftLacks$Reader", 54, ⟨"LeftLacks", "within", "(III)Z"⟩, "LeftLacks"), ("LeftLacks$Shop", 49, ⟨"LeftLacks", "hold", "(III)I"⟩, "LeftLacks"), ("LeftLacks$Speaker", 62, ⟨"LeftLacks", "within", "(III)Z"⟩, "LeftLacks")]
def NTW (U : State) : Prop := (∀ q ∈ ntM, va_Nw (.methodLinkNest q.1 q.2.1 q.2.2.1 q.2.2.2) U) ∧ va_Nw (.fieldLinkNest "LeftLacks$Speaker" 51 "LeftLacks" "ABOVE" "[I" "LeftLacks") U
theorem STA.moved {Ω : OT} {u U : State} {H : Heap} (hvm : u.vm.Alike U.vm) (h : STA Ω u H) : STA Ω U H := ⟨h.1.moved hvm, h.2.1.moved hvm, h.2.2.1.moved hvm, h.2.2.2.1.moved hvm, h.2.2.2.2.1.moved hvm, h.2.2.2.2.2.moved hvm⟩
theorem STA.kept {Ω : OT} {U : State} {H H1 : Heap} (h : STA Ω U H) (hq : ∀ a : Nat, a < H.size → ¬ AA Ω a → H1[a]? = H[a]?) : STA Ω U H1 := ⟨h.1.kept hq, h.2.1.kept hq, h.2.2.1.kept hq, h.2.2.2.1.kept hq, h.2.2.2.2.1.kept hq, h.2.2.2.2.2.kept hq⟩
theorem STB.warm {Ω : OT} {s U : State} (hW : s.WarmedH U.vm) (h : STB Ω s) : STB Ω U := ⟨h.1.warm hW, h.2.warm hW⟩
theorem NTW.warm {s U : State} (hW : s.WarmedH U.vm) (h : NTW s) : NTW U := ⟨fun q hq => (h.1 q hq).warmM hW, h.2.warmF hW⟩
theorem NTW.same {u U : State} (hv : u.vm = U.vm) (h : NTW u) : NTW U := ⟨fun q hq => (h.1 q hq).same rfl hv, h.2.same rfl hv⟩
abbrev KT : Type := (Program × Env × Room × State × MethodId × Array Value × List Frame × Method × Code) × OT × (Nat × Nat × (Int32 → Mem → State → Prop))
abbrev kp (K : KT) : Program := K.1.1
abbrev ke (K : KT) : Env := K.1.2.1
abbrev kR (K : KT) : Room := K.1.2.2.1
abbrev ks (K : KT) : State := K.1.2.2.2.1
abbrev km (K : KT) : MethodId := K.1.2.2.2.2.1
abbrev ka (K : KT) : Array Value := K.1.2.2.2.2.2.1
abbrev kb (K : KT) : List Frame := K.1.2.2.2.2.2.2.1
abbrev kt (K : KT) : Method := K.1.2.2.2.2.2.2.2.1
abbrev kc (K : KT) : Code := K.1.2.2.2.2.2.2.2.2
abbrev kO (K : KT) : OT := K.2.1
/-- the cell's address -/
abbrev kf (K : KT) (l : Nat) : Nat := K.2.1.2.1 l
abbrev kn (K : KT) : Nat := K.2.2.1
abbrev kz (K : KT) : Nat := K.2.2.2.1
abbrev kQ (K : KT) : Int32 → Mem → State → Prop := K.2.2.2.2
abbrev KW (K : KT) (H : Heap) (locs : List Loc) (Q : State → Prop) (g : JFrame) : Prop := W (kp K) (kO K).1 (ke K) (kR K) (ks K) (km K) (ka K) (kb K) (kt K) (kc K) H locs (kn K) (kz K) Q g
abbrev Res : Type := Option (Int32 × Mem)
/-- from pc on, with these locals, this stack, this memory: if X is an answer, the method ends with it -/
def G (K : KT) (pc : Nat) (L : List (Nat × Value)) (st : List Value) (μ : Mem) (X : Res) : Prop :=
  ∀ (r : Int32) (μ' : Mem), X = some (r, μ') → ∀ (H : Heap) (locs : List Loc) (ls : Array Slot), va_P (oD (kO K)) cls10 (wl (kO K) μ) H → va_S (AA (kO K)) (ks K).heap H locs → lv_has ls (kc K).maxLocals L → KW K H locs (kQ K r μ') (F0 (km K) pc ls st)
/-- what the method stands on -/
def Cx (K : KT) (cc : ByteArray) (own : String) (nL d : Nat) : Prop :=
  (kp K).tables.exec = Jvm.exec ∧ (kc K).code = cc ∧ (kc K).maxLocals = nL ∧ (ks K).vm.findClass own = some (km K).cls ∧ (∀ w ∈ gtbl, w.before (ka K) (ks K) = true) ∧ NTW (ks K) ∧ va_K (oD (kO K)) cls10 (tys (kO K)) (ks K) ∧ PHI (kO K) ∧ STA (kO K) (ks K) (ks K).heap ∧ STB (kO K) (ks K) ∧ d ≤ (kR K).frames ∧ 64 * d ≤ (kR K).locals ∧ kn K ≤ (kR K).cells ∧ kz K ≤ (kR K).slots
section CX
variable {K : KT} {cc : ByteArray} {own : String} {nL d : Nat}
theorem Cx.x (C : Cx K cc own nL d) : (kp K).tables.exec = Jvm.exec := C.1
theorem Cx.b (C : Cx K cc own nL d) : (kc K).code = cc := C.2.1
theorem Cx.l (C : Cx K cc own nL d) : (kc K).maxLocals = nL := C.2.2.1
theorem Cx.o (C : Cx K cc own nL d) : (ks K).vm.findClass own = some (km K).cls := C.2.2.2.1
theorem Cx.t (C : Cx K cc own nL d) : ∀ w ∈ gtbl, w.before (ka K) (ks K) = true := C.2.2.2.2.1
theorem Cx.n (C : Cx K cc own nL d) : NTW (ks K) := C.2.2.2.2.2.1
theorem Cx.k (C : Cx K cc own nL d) : va_K (oD (kO K)) cls10 (tys (kO K)) (ks K) := C.2.2.2.2.2.2.1
theorem Cx.p (C : Cx K cc own nL d) : PHI (kO K) := C.2.2.2.2.2.2.2.1
theorem Cx.sa (C : Cx K cc own nL d) : STA (kO K) (ks K) (ks K).heap := C.2.2.2.2.2.2.2.2.1
theorem Cx.sb (C : Cx K cc own nL d) : STB (kO K) (ks K) := C.2.2.2.2.2.2.2.2.2.1
theorem Cx.r (C : Cx K cc own nL d) : d ≤ (kR K).frames ∧ 64 * d ≤ (kR K).locals ∧ kn K ≤ (kR K).cells ∧ kz K ≤ (kR K).slots := C.2.2.2.2.2.2.2.2.2.2
end CX
def rvv (ret : Option FieldType) (r : Int32) : Option Value := match ret with
  | none => none
  | some _ => some (.int r)
/-- what a method leaves -/
def Qm (Ω : OT) (ret : Option FieldType) (r : Int32) (μ' : Mem) : Array Value → State → Outcome → State → Prop := fun _ st o t => o = .returned (rvv ret r) ∧ va_P (oD Ω) cls10 (wl Ω μ') t.heap ∧ va_F (AA Ω) st t
/-- what a method finds -/
def Pm (Ω : OT) (av : List Value) (μ : Mem) : Array Value → State → Prop := fun a U => a = av.toArray ∧ va_P (oD Ω) cls10 (wl Ω μ) U.heap ∧ va_K (oD Ω) cls10 (tys Ω) U ∧ PHI Ω ∧ STA Ω U U.heap ∧ STB Ω U ∧ NTW U
abbrev rmD (d : Nat) : Room := { frames := d, cells := 0, slots := 0, locals := 64 * d }
/-- a method's contract: if X is an answer, the method returns it, and leaves that memory -/
def Ct (Ω : OT) (y : MethodName) (cc : ByteArray) (nL : Nat) (ret : Option FieldType) (d : Nat) (av : List Value) (μ : Mem) (X : Res) : Prop :=
  ∀ (r : Int32) (μ' : Mem), X = some (r, μ') → Met Ω.1 y (Cond.code y cc nL ret :: gtbl) (rmD d) (Pm Ω av μ) (Qm Ω ret r μ') 0 0 (AA Ω)
/-- how the method may return -/
def Rx (K : KT) (ret : Option FieldType) : Prop := (∀ r μ', kQ K r μ' = MQ (kb K) (Qm (kO K) ret r μ') (ka K) (ks K) (kn K) (kz K) (AA (kO K))) ∧ (kt K).sig.returnType = ret ∧ (kt K).locks = false
theorem Ct_of {Ω : OT} {y : MethodName} {cc : ByteArray} {nL : Nat} {ret : Option FieldType} {d : Nat} {av : List Value} {μ : Mem} {X : Res} (hy : plainName y.cls = true) (hlen : (lg_sl av).length ≤ nL)
    (h : ∀ K : KT, kO K = Ω → Cx K cc y.cls nL d → Rx K ret → G K 0 (lv_args 0 av) [] μ X) : Ct Ω y cc nL ret d av μ X := by
  intro r μ' hX
  refine Met.ofW (cc := cc) (maxL := nL) (ret := ret) hy rfl ?_
  intro p e s m args below meth c s₁ B hml hv
  obtain ⟨rfl, hP, hK, hphi, hsa, hsb, hn⟩ := hv
  have hts := atoms_spec (ws := Cond.code y cc nL ret :: gtbl) B.pre
  have hown : s.vm.findClass y.cls = some m.cls := findClass_of_methodNamed B.named
  have hlocks := B.notSynchronized
  have hl := lv_entry av (n := nL) hlen
  rw [lg_entry_eq]
  have key := h ((p, e, (headSpec (Cond.code y cc nL ret :: gtbl) (rmD d)).room, s, m, av.toArray, below, meth, c), Ω, (0, 0, fun r μ' => MQ below (Qm Ω ret r μ') av.toArray s 0 0 (AA Ω))) rfl
    ⟨B.exec, B.bytes, hml, hown, fun w hw => hts w (List.mem_cons_of_mem _ hw), hn, hK, hphi, hsa, hsb, Nat.le_refl _, Nat.le_refl _, Nat.zero_le _, Nat.zero_le _⟩
    ⟨fun _ _ => rfl, B.returns, hlocks⟩
  exact key r μ' hX s.heap [] _ hP va_S.rf (by rw [show (kc _).maxLocals = nL from hml]; exact hl)
section GROWS
variable {K : KT} {cc : ByteArray} {own : String} {nL d pc : Nat} {L : List (Nat × Value)} {st : List Value} {μ : Mem} {X : Res}
def bnd {α β : Type} (a : α) (f : α → β) : β := f a
def imin (x y : Int32) : Int32 := if y < x then y else x
def imax (x y : Int32) : Int32 := if x < y then y else x
def irm (x y : Int32) : Int32 := x - x / y * y
def isl (x y : Int32) : Int32 := x <<< (y &&& 31)
def isr (x y : Int32) : Int32 := x >>> (y &&& 31)
def iur (x y : Int32) : Int32 := (x.toUInt32 >>> (y.toUInt32 &&& Int32.toUInt32 31)).toInt32
def lur (x : Int64) (y : Int32) : Int64 := (x.toUInt64 >>> (y.toInt64.toUInt64 &&& Int64.toUInt64 63)).toInt64
def lsr (x : Int64) (y : Int32) : Int64 := x >>> (y.toInt64 &&& 63)
def lsl (x : Int64) (y : Int32) : Int64 := x <<< (y.toInt64 &&& 63)
theorem g_iconst (C : Cx K cc own nL d) {n : Int} (v : Int32) (dg : decode cc pc = .ok (.iconst n, 1)) (hv : Int32.ofInt n = v) (g : G K (pc + 1) L (.int v :: st) μ X) : G K pc L st μ X := fun r μ' hX H locs ls hP hS hl => lv_iconst C.x C.b dg hv (g r μ' hX H locs ls hP hS hl)
theorem g_bipush (C : Cx K cc own nL d) {n : Int} (v : Int32) (dg : decode cc pc = .ok (.bipush n, 2)) (hv : (Int8.ofInt n).toInt32 = v) (g : G K (pc + 2) L (.int v :: st) μ X) : G K pc L st μ X := fun r μ' hX H locs ls hP hS hl => lv_bipush C.x C.b dg hv (g r μ' hX H locs ls hP hS hl)
theorem g_sipush (C : Cx K cc own nL d) {n : Int} (v : Int32) (dg : decode cc pc = .ok (.sipush n, 3)) (hv : (Int16.ofInt n).toInt32 = v) (g : G K (pc + 3) L (.int v :: st) μ X) : G K pc L st μ X := fun r μ' hX H locs ls hP hS hl => lv_sipush C.x C.b dg hv (g r μ' hX H locs ls hP hS hl)
theorem g_ldc (C : Cx K cc own nL d) {index : Nat} {v : Int32} (hw : Cond.constant own index v ∈ gtbl) (dg : decode cc pc = .ok (.ldc index, 2)) (g : G K (pc + 2) L (.int v :: st) μ X) : G K pc L st μ X := fun r μ' hX H locs ls hP hS hl => lv_ldc C.x C.b C.o (C.t _ hw) dg (g r μ' hX H locs ls hP hS hl)
theorem g_ldc2 (C : Cx K cc own nL d) {index : Nat} {v : Int64} (hw : Cond.constantLong own index v ∈ gtbl) (dg : decode cc pc = .ok (.ldc2_w index, 3)) (g : G K (pc + 3) L (.long v :: st) μ X) : G K pc L st μ X := fun r μ' hX H locs ls hP hS hl => lv_ldc2 C.x C.b C.o (C.t _ hw) dg (g r μ' hX H locs ls hP hS hl)
theorem g_iload_n (C : Cx K cc own nL d) {j : Fin 4} {i : Nat} {x : Int32} (dg : decode cc pc = .ok (.iload_n j, 1)) (k : Nat) (hi : (j : Nat) = i) (hk : L[k]? = some (i, .int x)) (g : G K (pc + 1) L (.int x :: st) μ X) : G K pc L st μ X := fun r μ' hX H locs ls hP hS hl => lv_iload_n C.x C.b dg hi (lv_at hl k hk) (g r μ' hX H locs ls hP hS hl)
theorem g_iload (C : Cx K cc own nL d) {i : Nat} {x : Int32} (dg : decode cc pc = .ok (.iload i, 2)) (k : Nat) (hk : L[k]? = some (i, .int x)) (g : G K (pc + 2) L (.int x :: st) μ X) : G K pc L st μ X := fun r μ' hX H locs ls hP hS hl => lv_iload C.x C.b dg (lv_at hl k hk) (g r μ' hX H locs ls hP hS hl)
theorem g_istore_n (C : Cx K cc own nL d) {j : Fin 4} {i : Nat} {x : Int32} {L' : List (Nat × Value)} (dg : decode cc pc = .ok (.istore_n j, 1)) (hi : (j : Nat) = i) (hn : i < nL) (hL : (i, Value.int x) :: L.filter (fun q => !(q.1 == i) && !(q.1 + 1 == i && q.2.category == 2)) = L') (g : G K (pc + 1) L' st μ X) : G K pc L (.int x :: st) μ X := fun r μ' hX H locs ls hP hS hl => lv_istore_n C.x C.b dg hi hl (by rw [C.l]; exact hn) hL (fun ls2 hl2 => g r μ' hX H locs ls2 hP hS hl2)
theorem g_istore (C : Cx K cc own nL d) {i : Nat} {x : Int32} {L' : List (Nat × Value)} (dg : decode cc pc = .ok (.istore i, 2)) (hn : i < nL) (hL : (i, Value.int x) :: L.filter (fun q => !(q.1 == i) && !(q.1 + 1 == i && q.2.category == 2)) = L') (g : G K (pc + 2) L' st μ X) : G K pc L (.int x :: st) μ X := fun r μ' hX H locs ls hP hS hl => lv_istore C.x C.b dg hl (by rw [C.l]; exact hn) hL (fun ls2 hl2 => g r μ' hX H locs ls2 hP hS hl2)
theorem g_aload_n (C : Cx K cc own nL d) {j : Fin 4} {i : Nat} {x : Nat} (dg : decode cc pc = .ok (.aload_n j, 1)) (k : Nat) (hi : (j : Nat) = i) (hk : L[k]? = some (i, .ref x)) (g : G K (pc + 1) L (.ref x :: st) μ X) : G K pc L st μ X := fun r μ' hX H locs ls hP hS hl => lv_aload_n C.x C.b dg hi (lv_at hl k hk) (g r μ' hX H locs ls hP hS hl)
theorem g_aload (C : Cx K cc own nL d) {i : Nat} {x : Nat} (dg : decode cc pc = .ok (.aload i, 2)) (k : Nat) (hk : L[k]? = some (i, .ref x)) (g : G K (pc + 2) L (.ref x :: st) μ X) : G K pc L st μ X := fun r μ' hX H locs ls hP hS hl => lv_aload C.x C.b dg (lv_at hl k hk) (g r μ' hX H locs ls hP hS hl)
theorem g_astore_n (C : Cx K cc own nL d) {j : Fin 4} {i : Nat} {x : Nat} {L' : List (Nat × Value)} (dg : decode cc pc = .ok (.astore_n j, 1)) (hi : (j : Nat) = i) (hn : i < nL) (hL : (i, Value.ref x) :: L.filter (fun q => !(q.1 == i) && !(q.1 + 1 == i && q.2.category == 2)) = L') (g : G K (pc + 1) L' st μ X) : G K pc L (.ref x :: st) μ X := fun r μ' hX H locs ls hP hS hl => lv_astore_n C.x C.b dg hi hl (by rw [C.l]; exact hn) hL (fun ls2 hl2 => g r μ' hX H locs ls2 hP hS hl2)
theorem g_astore (C : Cx K cc own nL d) {i : Nat} {x : Nat} {L' : List (Nat × Value)} (dg : decode cc pc = .ok (.astore i, 2)) (hn : i < nL) (hL : (i, Value.ref x) :: L.filter (fun q => !(q.1 == i) && !(q.1 + 1 == i && q.2.category == 2)) = L') (g : G K (pc + 2) L' st μ X) : G K pc L (.ref x :: st) μ X := fun r μ' hX H locs ls hP hS hl => lv_astore C.x C.b dg hl (by rw [C.l]; exact hn) hL (fun ls2 hl2 => g r μ' hX H locs ls2 hP hS hl2)
theorem g_lload_n (C : Cx K cc own nL d) {j : Fin 4} {i : Nat} {x : Int64} (dg : decode cc pc = .ok (.lload_n j, 1)) (k : Nat) (hi : (j : Nat) = i) (hk : L[k]? = some (i, .long x)) (g : G K (pc + 1) L (.long x :: st) μ X) : G K pc L st μ X := fun r μ' hX H locs ls hP hS hl => lv_lload_n C.x C.b dg hi (lv_at hl k hk) (g r μ' hX H locs ls hP hS hl)
theorem g_iinc (C : Cx K cc own nL d) {i k : Nat} {n : Int} {x w : Int32} {kx : Int32 → Res} (dg : decode cc pc = .ok (.iinc i n, 3)) (hk : L[k]? = some (i, .int x)) (hw : Int32.ofInt n = w) (hn : i < nL) (L' : Int32 → List (Nat × Value)) (hL : ∀ v, (i, Value.int v) :: L.filter (fun q => !(q.1 == i) && !(q.1 + 1 == i && q.2.category == 2)) = L' v) (g : ∀ v, G K (pc + 3) (L' v) st μ (kx v)) : G K pc L st μ (bnd (x + w) kx) := fun r μ' hX H locs ls hP hS hl => lv_iinc (v := x + w) C.x C.b dg hl hk (by rw [hw]) (by rw [C.l]; exact hn) (hL _) (fun ls2 hl2 => g (x + w) r μ' hX H locs ls2 hP hS hl2)
theorem g_iadd (C : Cx K cc own nL d) {x y : Int32} (dg : decode cc pc = .ok (.iadd, 1)) (g : G K (pc + 1) L (.int (x + y) :: st) μ X) : G K pc L (.int y :: .int x :: st) μ X := fun r μ' hX H locs ls hP hS hl => lv_iadd C.x C.b dg  (g r μ' hX H locs ls hP hS hl)
theorem g_isub (C : Cx K cc own nL d) {x y : Int32} (dg : decode cc pc = .ok (.isub, 1)) (g : G K (pc + 1) L (.int (x - y) :: st) μ X) : G K pc L (.int y :: .int x :: st) μ X := fun r μ' hX H locs ls hP hS hl => lv_isub C.x C.b dg  (g r μ' hX H locs ls hP hS hl)
theorem g_imul (C : Cx K cc own nL d) {x y : Int32} (dg : decode cc pc = .ok (.imul, 1)) (g : G K (pc + 1) L (.int (x * y) :: st) μ X) : G K pc L (.int y :: .int x :: st) μ X := fun r μ' hX H locs ls hP hS hl => lv_imul C.x C.b dg  (g r μ' hX H locs ls hP hS hl)
theorem g_iand (C : Cx K cc own nL d) {x y : Int32} (dg : decode cc pc = .ok (.iand, 1)) (g : G K (pc + 1) L (.int (x &&& y) :: st) μ X) : G K pc L (.int y :: .int x :: st) μ X := fun r μ' hX H locs ls hP hS hl => lv_iand C.x C.b dg  (g r μ' hX H locs ls hP hS hl)
theorem g_ior (C : Cx K cc own nL d) {x y : Int32} (dg : decode cc pc = .ok (.ior, 1)) (g : G K (pc + 1) L (.int (x ||| y) :: st) μ X) : G K pc L (.int y :: .int x :: st) μ X := fun r μ' hX H locs ls hP hS hl => lv_ior C.x C.b dg  (g r μ' hX H locs ls hP hS hl)
theorem g_ixor (C : Cx K cc own nL d) {x y : Int32} (dg : decode cc pc = .ok (.ixor, 1)) (g : G K (pc + 1) L (.int (x ^^^ y) :: st) μ X) : G K pc L (.int y :: .int x :: st) μ X := fun r μ' hX H locs ls hP hS hl => lv_ixor C.x C.b dg  (g r μ' hX H locs ls hP hS hl)
theorem g_ishl (C : Cx K cc own nL d) {x y : Int32} (dg : decode cc pc = .ok (.ishl, 1)) (g : G K (pc + 1) L (.int (isl x y) :: st) μ X) : G K pc L (.int y :: .int x :: st) μ X := fun r μ' hX H locs ls hP hS hl => lv_ishl C.x C.b dg  (g r μ' hX H locs ls hP hS hl)
theorem g_ishr (C : Cx K cc own nL d) {x y : Int32} (dg : decode cc pc = .ok (.ishr, 1)) (g : G K (pc + 1) L (.int (isr x y) :: st) μ X) : G K pc L (.int y :: .int x :: st) μ X := fun r μ' hX H locs ls hP hS hl => lv_ishr C.x C.b dg  (g r μ' hX H locs ls hP hS hl)
theorem g_ineg (C : Cx K cc own nL d) {x : Int32} (dg : decode cc pc = .ok (.ineg, 1)) (g : G K (pc + 1) L (.int (-x) :: st) μ X) : G K pc L (.int x :: st) μ X := fun r μ' hX H locs ls hP hS hl => lv_ineg C.x C.b dg  (g r μ' hX H locs ls hP hS hl)
theorem g_iushr (C : Cx K cc own nL d) {x y : Int32} (dg : decode cc pc = .ok (.iushr, 1)) (g : G K (pc + 1) L (.int (iur x y) :: st) μ X) : G K pc L (.int y :: .int x :: st) μ X := fun r μ' hX H locs ls hP hS hl => lv_iushr C.x C.b dg rfl (g r μ' hX H locs ls hP hS hl)
theorem g_i2l (C : Cx K cc own nL d) {x : Int32} (dg : decode cc pc = .ok (.i2l, 1)) (g : G K (pc + 1) L (.long (x.toInt64) :: st) μ X) : G K pc L (.int x :: st) μ X := fun r μ' hX H locs ls hP hS hl => lv_i2l C.x C.b dg rfl (g r μ' hX H locs ls hP hS hl)
theorem g_l2i (C : Cx K cc own nL d) {x : Int64} (dg : decode cc pc = .ok (.l2i, 1)) (g : G K (pc + 1) L (.int (x.toInt32) :: st) μ X) : G K pc L (.long x :: st) μ X := fun r μ' hX H locs ls hP hS hl => lv_l2i C.x C.b dg rfl (g r μ' hX H locs ls hP hS hl)
theorem g_i2b (C : Cx K cc own nL d) {x : Int32} (dg : decode cc pc = .ok (.i2b, 1)) (g : G K (pc + 1) L (.int (x.toInt8.toInt32) :: st) μ X) : G K pc L (.int x :: st) μ X := fun r μ' hX H locs ls hP hS hl => lv_i2b C.x C.b dg rfl (g r μ' hX H locs ls hP hS hl)
theorem g_i2s (C : Cx K cc own nL d) {x : Int32} (dg : decode cc pc = .ok (.i2s, 1)) (g : G K (pc + 1) L (.int (x.toInt16.toInt32) :: st) μ X) : G K pc L (.int x :: st) μ X := fun r μ' hX H locs ls hP hS hl => lv_i2s C.x C.b dg rfl (g r μ' hX H locs ls hP hS hl)
theorem g_i2c (C : Cx K cc own nL d) {x : Int32} (dg : decode cc pc = .ok (.i2c, 1)) (g : G K (pc + 1) L (.int ((x.toUInt32 % 65536).toInt32) :: st) μ X) : G K pc L (.int x :: st) μ X := fun r μ' hX H locs ls hP hS hl => lv_i2c C.x C.b dg rfl (g r μ' hX H locs ls hP hS hl)
theorem g_land (C : Cx K cc own nL d) {x y : Int64} (dg : decode cc pc = .ok (.land, 1)) (g : G K (pc + 1) L (.long (x &&& y) :: st) μ X) : G K pc L (.long y :: .long x :: st) μ X := fun r μ' hX H locs ls hP hS hl => lv_land C.x C.b dg  (g r μ' hX H locs ls hP hS hl)
theorem g_lor (C : Cx K cc own nL d) {x y : Int64} (dg : decode cc pc = .ok (.lor, 1)) (g : G K (pc + 1) L (.long (x ||| y) :: st) μ X) : G K pc L (.long y :: .long x :: st) μ X := fun r μ' hX H locs ls hP hS hl => lv_lor C.x C.b dg  (g r μ' hX H locs ls hP hS hl)
theorem g_lushr (C : Cx K cc own nL d) {x : Int64} {y : Int32} (dg : decode cc pc = .ok (.lushr, 1)) (g : G K (pc + 1) L (.long (lur x y) :: st) μ X) : G K pc L (.int y :: .long x :: st) μ X := fun r μ' hX H locs ls hP hS hl => lv_lushr C.x C.b dg rfl (g r μ' hX H locs ls hP hS hl)
theorem g_lshr (C : Cx K cc own nL d) {x : Int64} {y : Int32} (dg : decode cc pc = .ok (.lshr, 1)) (g : G K (pc + 1) L (.long (lsr x y) :: st) μ X) : G K pc L (.int y :: .long x :: st) μ X := fun r μ' hX H locs ls hP hS hl => lv_lshr C.x C.b dg rfl (g r μ' hX H locs ls hP hS hl)
theorem g_lshl (C : Cx K cc own nL d) {x : Int64} {y : Int32} (dg : decode cc pc = .ok (.lshl, 1)) (g : G K (pc + 1) L (.long (lsl x y) :: st) μ X) : G K pc L (.int y :: .long x :: st) μ X := fun r μ' hX H locs ls hP hS hl => lv_lshl C.x C.b dg rfl (g r μ' hX H locs ls hP hS hl)
theorem g_idiv (C : Cx K cc own nL d) {x y : Int32} (dg : decode cc pc = .ok (.idiv, 1)) (g : ¬ y = 0 → G K (pc + 1) L (.int (x / y) :: st) μ X) : G K pc L (.int y :: .int x :: st) μ (gd (!(y == 0)) X) := by
  intro r μ' hX H locs ls hP hS hl
  obtain ⟨h1, h2⟩ := gd_some hX
  have h3 : ¬ y = 0 := by simpa using h1
  exact lv_idiv C.x C.b dg h3 (g h3 r μ' h2 H locs ls hP hS hl)
theorem g_irem (C : Cx K cc own nL d) {x y : Int32} (dg : decode cc pc = .ok (.irem, 1)) (g : ¬ y = 0 → G K (pc + 1) L (.int (irm x y) :: st) μ X) : G K pc L (.int y :: .int x :: st) μ (gd (!(y == 0)) X) := by
  intro r μ' hX H locs ls hP hS hl
  obtain ⟨h1, h2⟩ := gd_some hX
  have h3 : ¬ y = 0 := by simpa using h1
  exact lv_irem C.x C.b dg h3 (g h3 r μ' h2 H locs ls hP hS hl)
theorem g_dup (C : Cx K cc own nL d) {v : Value} (dg : decode cc pc = .ok (.dup, 1)) (hv : v.category = 1) (g : G K (pc + 1) L (v :: v :: st) μ X) : G K pc L (v :: st) μ X := fun r μ' hX H locs ls hP hS hl => lv_dup C.x C.b dg hv (g r μ' hX H locs ls hP hS hl)
theorem g_pop (C : Cx K cc own nL d) {v : Value} (dg : decode cc pc = .ok (.pop, 1)) (hv : v.category = 1) (g : G K (pc + 1) L (st) μ X) : G K pc L (v :: st) μ X := fun r μ' hX H locs ls hP hS hl => lv_pop C.x C.b dg hv (g r μ' hX H locs ls hP hS hl)
theorem g_dup2 (C : Cx K cc own nL d) {v w : Value} (dg : decode cc pc = .ok (.dup2, 1)) (hv : v.category = 1) (hw : w.category = 1) (g : G K (pc + 1) L (v :: w :: v :: w :: st) μ X) : G K pc L (v :: w :: st) μ X := fun r μ' hX H locs ls hP hS hl => lv_dup2_11 C.x C.b dg hv hw (g r μ' hX H locs ls hP hS hl)
theorem g_icmp_eq (C : Cx K cc own nL d) {x y : Int32} {off : Int} (tgt : Nat) {X1 X2 : Res} (dg : decode cc pc = .ok (.if_icmp .eq off, 3)) (ht : (pc : Int) + off = (tgt : Int)) (g1 : x = y → G K tgt L st μ X1) (g2 : ¬ (x = y) → G K (pc + 3) L st μ X2) : G K pc L (.int y :: .int x :: st) μ (if x = y then X1 else X2) := by
  intro r μ' hX H locs ls hP hS hl
  refine lv_icmp_eq C.x C.b dg ht (fun q => g1 q r μ' (by rw [if_pos q] at hX; exact hX) H locs ls hP hS hl) (fun q => g2 q r μ' (by rw [if_neg q] at hX; exact hX) H locs ls hP hS hl)
theorem g_if_eq (C : Cx K cc own nL d) {x : Int32} {off : Int} (tgt : Nat) {X1 X2 : Res} (dg : decode cc pc = .ok (.ifCond .eq off, 3)) (ht : (pc : Int) + off = (tgt : Int)) (g1 : x = 0 → G K tgt L st μ X1) (g2 : ¬ (x = 0) → G K (pc + 3) L st μ X2) : G K pc L (.int x :: st) μ (if x = 0 then X1 else X2) := by
  intro r μ' hX H locs ls hP hS hl
  refine lv_if_eq C.x C.b dg ht (fun q => g1 q r μ' (by rw [if_pos q] at hX; exact hX) H locs ls hP hS hl) (fun q => g2 q r μ' (by rw [if_neg q] at hX; exact hX) H locs ls hP hS hl)
theorem g_icmp_ne (C : Cx K cc own nL d) {x y : Int32} {off : Int} (tgt : Nat) {X1 X2 : Res} (dg : decode cc pc = .ok (.if_icmp .ne off, 3)) (ht : (pc : Int) + off = (tgt : Int)) (g1 : ¬ (x = y) → G K tgt L st μ X1) (g2 : x = y → G K (pc + 3) L st μ X2) : G K pc L (.int y :: .int x :: st) μ (if x = y then X2 else X1) := by
  intro r μ' hX H locs ls hP hS hl
  refine lv_icmp_ne C.x C.b dg ht (fun q => g1 q r μ' (by rw [if_neg q] at hX; exact hX) H locs ls hP hS hl) (fun q => g2 q r μ' (by rw [if_pos q] at hX; exact hX) H locs ls hP hS hl)
theorem g_if_ne (C : Cx K cc own nL d) {x : Int32} {off : Int} (tgt : Nat) {X1 X2 : Res} (dg : decode cc pc = .ok (.ifCond .ne off, 3)) (ht : (pc : Int) + off = (tgt : Int)) (g1 : ¬ (x = 0) → G K tgt L st μ X1) (g2 : x = 0 → G K (pc + 3) L st μ X2) : G K pc L (.int x :: st) μ (if x = 0 then X2 else X1) := by
  intro r μ' hX H locs ls hP hS hl
  refine lv_if_ne C.x C.b dg ht (fun q => g1 q r μ' (by rw [if_neg q] at hX; exact hX) H locs ls hP hS hl) (fun q => g2 q r μ' (by rw [if_pos q] at hX; exact hX) H locs ls hP hS hl)
theorem g_icmp_lt (C : Cx K cc own nL d) {x y : Int32} {off : Int} (tgt : Nat) {X1 X2 : Res} (dg : decode cc pc = .ok (.if_icmp .lt off, 3)) (ht : (pc : Int) + off = (tgt : Int)) (g1 : x < y → G K tgt L st μ X1) (g2 : ¬ (x < y) → G K (pc + 3) L st μ X2) : G K pc L (.int y :: .int x :: st) μ (if x < y then X1 else X2) := by
  intro r μ' hX H locs ls hP hS hl
  refine lv_icmp_lt C.x C.b dg ht (fun q => g1 q r μ' (by rw [if_pos q] at hX; exact hX) H locs ls hP hS hl) (fun q => g2 q r μ' (by rw [if_neg q] at hX; exact hX) H locs ls hP hS hl)
theorem g_if_lt (C : Cx K cc own nL d) {x : Int32} {off : Int} (tgt : Nat) {X1 X2 : Res} (dg : decode cc pc = .ok (.ifCond .lt off, 3)) (ht : (pc : Int) + off = (tgt : Int)) (g1 : x < 0 → G K tgt L st μ X1) (g2 : ¬ (x < 0) → G K (pc + 3) L st μ X2) : G K pc L (.int x :: st) μ (if x < 0 then X1 else X2) := by
  intro r μ' hX H locs ls hP hS hl
  refine lv_if_lt C.x C.b dg ht (fun q => g1 q r μ' (by rw [if_pos q] at hX; exact hX) H locs ls hP hS hl) (fun q => g2 q r μ' (by rw [if_neg q] at hX; exact hX) H locs ls hP hS hl)
theorem g_icmp_ge (C : Cx K cc own nL d) {x y : Int32} {off : Int} (tgt : Nat) {X1 X2 : Res} (dg : decode cc pc = .ok (.if_icmp .ge off, 3)) (ht : (pc : Int) + off = (tgt : Int)) (g1 : y ≤ x → G K tgt L st μ X1) (g2 : ¬ (y ≤ x) → G K (pc + 3) L st μ X2) : G K pc L (.int y :: .int x :: st) μ (if y ≤ x then X1 else X2) := by
  intro r μ' hX H locs ls hP hS hl
  refine lv_icmp_ge C.x C.b dg ht (fun q => g1 q r μ' (by rw [if_pos q] at hX; exact hX) H locs ls hP hS hl) (fun q => g2 q r μ' (by rw [if_neg q] at hX; exact hX) H locs ls hP hS hl)
theorem g_if_ge (C : Cx K cc own nL d) {x : Int32} {off : Int} (tgt : Nat) {X1 X2 : Res} (dg : decode cc pc = .ok (.ifCond .ge off, 3)) (ht : (pc : Int) + off = (tgt : Int)) (g1 : 0 ≤ x → G K tgt L st μ X1) (g2 : ¬ (0 ≤ x) → G K (pc + 3) L st μ X2) : G K pc L (.int x :: st) μ (if 0 ≤ x then X1 else X2) := by
  intro r μ' hX H locs ls hP hS hl
  refine lv_if_ge C.x C.b dg ht (fun q => g1 q r μ' (by rw [if_pos q] at hX; exact hX) H locs ls hP hS hl) (fun q => g2 q r μ' (by rw [if_neg q] at hX; exact hX) H locs ls hP hS hl)
theorem g_icmp_gt (C : Cx K cc own nL d) {x y : Int32} {off : Int} (tgt : Nat) {X1 X2 : Res} (dg : decode cc pc = .ok (.if_icmp .gt off, 3)) (ht : (pc : Int) + off = (tgt : Int)) (g1 : y < x → G K tgt L st μ X1) (g2 : ¬ (y < x) → G K (pc + 3) L st μ X2) : G K pc L (.int y :: .int x :: st) μ (if y < x then X1 else X2) := by
  intro r μ' hX H locs ls hP hS hl
  refine lv_icmp_gt C.x C.b dg ht (fun q => g1 q r μ' (by rw [if_pos q] at hX; exact hX) H locs ls hP hS hl) (fun q => g2 q r μ' (by rw [if_neg q] at hX; exact hX) H locs ls hP hS hl)
theorem g_if_gt (C : Cx K cc own nL d) {x : Int32} {off : Int} (tgt : Nat) {X1 X2 : Res} (dg : decode cc pc = .ok (.ifCond .gt off, 3)) (ht : (pc : Int) + off = (tgt : Int)) (g1 : 0 < x → G K tgt L st μ X1) (g2 : ¬ (0 < x) → G K (pc + 3) L st μ X2) : G K pc L (.int x :: st) μ (if 0 < x then X1 else X2) := by
  intro r μ' hX H locs ls hP hS hl
  refine lv_if_gt C.x C.b dg ht (fun q => g1 q r μ' (by rw [if_pos q] at hX; exact hX) H locs ls hP hS hl) (fun q => g2 q r μ' (by rw [if_neg q] at hX; exact hX) H locs ls hP hS hl)
theorem g_icmp_le (C : Cx K cc own nL d) {x y : Int32} {off : Int} (tgt : Nat) {X1 X2 : Res} (dg : decode cc pc = .ok (.if_icmp .le off, 3)) (ht : (pc : Int) + off = (tgt : Int)) (g1 : x ≤ y → G K tgt L st μ X1) (g2 : ¬ (x ≤ y) → G K (pc + 3) L st μ X2) : G K pc L (.int y :: .int x :: st) μ (if x ≤ y then X1 else X2) := by
  intro r μ' hX H locs ls hP hS hl
  refine lv_icmp_le C.x C.b dg ht (fun q => g1 q r μ' (by rw [if_pos q] at hX; exact hX) H locs ls hP hS hl) (fun q => g2 q r μ' (by rw [if_neg q] at hX; exact hX) H locs ls hP hS hl)
theorem g_if_le (C : Cx K cc own nL d) {x : Int32} {off : Int} (tgt : Nat) {X1 X2 : Res} (dg : decode cc pc = .ok (.ifCond .le off, 3)) (ht : (pc : Int) + off = (tgt : Int)) (g1 : x ≤ 0 → G K tgt L st μ X1) (g2 : ¬ (x ≤ 0) → G K (pc + 3) L st μ X2) : G K pc L (.int x :: st) μ (if x ≤ 0 then X1 else X2) := by
  intro r μ' hX H locs ls hP hS hl
  refine lv_if_le C.x C.b dg ht (fun q => g1 q r μ' (by rw [if_pos q] at hX; exact hX) H locs ls hP hS hl) (fun q => g2 q r μ' (by rw [if_neg q] at hX; exact hX) H locs ls hP hS hl)
theorem g_goto (C : Cx K cc own nL d) {off : Int} (tgt : Nat) (dg : decode cc pc = .ok (.goto off, 3)) (ht : (pc : Int) + off = (tgt : Int)) (g : G K tgt L st μ X) : G K pc L st μ X := fun r μ' hX H locs ls hP hS hl => lv_goto C.x C.b dg ht (g r μ' hX H locs ls hP hS hl)
theorem g_sub {L' : List (Nat × Value)} (ks : List Nat) (h : lv_pick L ks = L') (g : G K pc L' st μ X) : G K pc L st μ X := fun r μ' hX H locs ls hP hS hl => g r μ' hX H locs ls hP hS (lv_sub hl ks h)
theorem g_bnd {e : Int32} {kx : Int32 → Res} (g : ∀ x : Int32, G K pc L (.int x :: st) μ (kx x)) : G K pc L (.int e :: st) μ (bnd e kx) := g e
theorem g_gd {b : Bool} (g : b = true → G K pc L st μ X) : G K pc L st μ (gd b X) := fun r μ' hX H locs ls hP hS hl => g (gd_some hX).1 r μ' (gd_some hX).2 H locs ls hP hS hl
theorem g_none : G K pc L st μ none := fun r μ' hX => by cases hX
theorem g_use {X' : Res} (h : ∀ y, X = some y → X' = some y) (g : G K pc L st μ X') : G K pc L st μ X := fun r μ' hX => g r μ' (h _ hX)
/-- what the tables say of a class -/
def Fx (ci : Nat) (C0 : String) (T : u_T) (N : Nat) (ty : Nat → FieldType) : Prop := ci < 10 ∧ cls10[ci]? = some (C0, T, N) ∧ (∀ w ∈ u_ws C0 T N, w ∈ gtbl) ∧ (∀ k, k < N → parseFieldDescriptor (T k).2.2.1 = some (ty k)) ∧ (∀ a, a < N → ∀ b, b < N → a ≠ b → (T a).2.1 ≠ (T b).2.1) ∧ nf ci = N
theorem fs_get {Ω : OT} {ci l : Nat} {μ : Mem} {k N : Nat} (hN : nf ci = N) (hk : k < N) : ((List.range (nf ci)).map (fv Ω ci l μ))[k]? = some (fv Ω ci l μ k) := by
  rw [List.getElem?_map, List.getElem?_range (by rw [hN]; exact hk)]
  rfl
theorem g_get (C : Cx K cc own nL d) {ci k l index N : Nat} {C0 : String} {T : u_T} {ty : Nat → FieldType} {v : Value} (F : Fx ci C0 T N ty) (ht : tg l = ci) (hk : k < N) (hv : fv (kO K) ci l μ k = v) (hT : (T k).1 = C0) (hlink : Cond.fieldLink own index C0 (T k).2.1 (T k).2.2.1 ∈ gtbl) (dg : decode cc pc = .ok (.getfield index, 3)) (g : G K (pc + 3) L (v :: st) μ X) : G K pc L (.ref (kf K l) :: st) μ X := by
  intro r μ' hX H locs ls hP hS hl
  obtain ⟨f1, f2, f3, f4, f5, f6⟩ := F
  have he := wl_get (kO K) μ (tg_ltO ht (by omega))
  rw [ent_obj (kO K) μ ht f1] at he
  refine va_get (ref := C0) C.x C.b C.t f3 C.o C.k hP l he f2 k hk (C.t _ hlink) (fun x hx => by rw [hT] at hx; exact hx) (v := v) ?_ dg (g r μ' hX H locs ls hP hS hl)
  rw [fs_get f6 hk, hv]
theorem g_put (C : Cx K cc own nL d) {ci k l index N : Nat} {C0 : String} {T : u_T} {ty : Nat → FieldType} {v : Value} {x : Int32} {kx : Mem → Res} (F : Fx ci C0 T N ty) (ht : tg l = ci) (hk : k < N) (hv : fv (kO K) ci l (mset μ l k x) k = v) (hT : (T k).1 = C0) (hfin : (T k).2.2.2 = false) (hn : narrow (ty k) v = v) (hfit : fits (ty k) v = true) (hlink : Cond.fieldLink own index C0 (T k).2.1 (T k).2.2.1 ∈ gtbl) (dg : decode cc pc = .ok (.putfield index, 3)) (g : ∀ μ1, G K (pc + 3) L st μ1 (kx μ1)) : G K pc L (v :: .ref (kf K l) :: st) μ (bnd (mset μ l k x) kx) := by
  intro r μ' hX H locs ls hP hS hl
  obtain ⟨f1, f2, f3, f4, f5, f6⟩ := F
  have he := wl_get (kO K) μ (tg_ltO ht (by omega))
  rw [ent_obj (kO K) μ ht f1] at he
  refine va_put (ref := C0) C.x C.b C.t f3 ty f4 f5 C.o C.k hP (wl_D C.p μ) hS l he f2 k hk (C.t _ hlink) (fun x hx => by rw [hT] at hx; exact hx) hfin (f4 k hk) hn hfit (by rw [List.length_map, List.length_range, f6]; exact hk) dg (fun H1 locs1 hP1 hD1 hS1 => ?_)
  rw [wl_setf ht f1 hv] at hP1
  exact g (mset μ l k x) r μ' hX H1 locs1 ls hP1 hS1 hl
theorem g_iald (C : Cx K cc own nL d) {l n : Nat} {i : Int32} (ht : tg l = 100 + n) (dg : decode cc pc = .ok (.iaload, 1)) (g : inb i n = true → G K (pc + 1) L (.int (μ l i.toNatClampNeg) :: st) μ X) : G K pc L (.int i :: .ref (kf K l) :: st) μ (gd (inb i n) X) := by
  intro r μ' hX H locs ls hP hS hl
  obtain ⟨h1, h2⟩ := gd_some hX
  have he := wl_get (kO K) μ (tg_ltI ht)
  rw [ent_int (kO K) μ ht] at he
  exact va_iald C.x C.b C.k hP l 0 he rfl (inb_vp h1) dg (g h1 r μ' h2 H locs ls hP hS hl)
theorem g_iast (C : Cx K cc own nL d) {l n : Nat} {i x : Int32} {kx : Mem → Res} (ht : tg l = 100 + n) (dg : decode cc pc = .ok (.iastore, 1)) (g : ∀ μ1, G K (pc + 1) L st μ1 (kx μ1)) : G K pc L (.int x :: .int i :: .ref (kf K l) :: st) μ (gd (inb i n) (bnd (mset μ l i.toNatClampNeg x) kx)) := by
  intro r μ' hX H locs ls hP hS hl
  obtain ⟨h1, h2⟩ := gd_some hX
  have he := wl_get (kO K) μ (tg_ltI ht)
  rw [ent_int (kO K) μ ht] at he
  refine va_iast C.x C.b C.k hP (wl_D C.p μ) hS l 0 he rfl (inb_vp h1) dg (fun H1 locs1 hP1 hD1 hS1 => ?_)
  rw [wl_seti ht] at hP1
  exact g _ r μ' h2 H1 locs1 ls hP1 hS1 hl
theorem g_aald (C : Cx K cc own nL d) {l t : Nat} {i : Int32} {E : String} (ht : tg l = t) (h1 : 10 ≤ t) (h2 : t < 100) (hty : (tys (kO K))[t - 9]? = some (oC (kO K) (t - 9), .object E)) (dg : decode cc pc = .ok (.aaload, 1)) (g : inb i (an t) = true → G K (pc + 1) L (.ref (kf K (l + aa t + ab t * i.toNatClampNeg)) :: st) μ X) : G K pc L (.int i :: .ref (kf K l) :: st) μ (gd (inb i (an t)) X) := by
  intro r μ' hX H locs ls hP hS hl
  obtain ⟨h3, h4⟩ := gd_some hX
  have he := wl_get (kO K) μ (tg_lt (l := l) (by
    intro q
    rw [ht] at q
    subst q
    simp [tys] at hty))
  rw [ent_ref (kO K) μ ht h1 h2] at he
  exact va_aldq C.x C.b C.k hP l (t - 9) he hty (inb_vp h3) dg (g h3 r μ' h4 H locs ls hP hS hl)
theorem g_alen (C : Cx K cc own nL d) {l n : Nat} {v : Int32} (ht : tg l = 100 + n) (hv : Int32.ofNat n = v) (dg : decode cc pc = .ok (.arraylength, 1)) (g : G K (pc + 1) L (.int v :: st) μ X) : G K pc L (.ref (kf K l) :: st) μ X := by
  intro r μ' hX H locs ls hP hS hl
  have he := wl_get (kO K) μ (tg_ltI ht)
  rw [ent_int (kO K) μ ht] at he
  exact va_alen C.x C.b C.k hP l 0 he rfl hv dg (g r μ' hX H locs ls hP hS hl)
theorem g_iret (C : Cx K cc own nL d) (Rr : Rx K (some .int)) {v : Int32} (dg : decode cc pc = .ok (.ireturn, 1)) : G K pc L [.int v] μ (some (v, μ)) := by
  intro r μ' hX H locs ls hP hS hl
  cases hX
  rw [show kQ K v μ = _ from Rr.1 v μ]
  exact W.iret C.x C.b Rr.2.1 (fun t ht _ => ⟨rfl, by rw [ht]; exact hP, hS.F ht⟩) (fun q hq => hS.2.2 q hq) dg Rr.2.2
theorem g_zret (C : Cx K cc own nL d) (Rr : Rx K (some .boolean)) {v : Int32} (dg : decode cc pc = .ok (.ireturn, 1)) : G K pc L [.int v] μ (gd (isb v) (some (v, μ))) := by
  intro r μ' hX H locs ls hP hS hl
  obtain ⟨h1, h2⟩ := gd_some hX
  cases h2
  rw [show kQ K v μ = _ from Rr.1 v μ]
  have hv : v = 0 ∨ v = 1 := of_decide_eq_true h1
  exact W.zret C.x C.b Rr.2.1 (by rcases hv with rfl | rfl <;> rfl) (fun t ht _ => ⟨rfl, by rw [ht]; exact hP, hS.F ht⟩) (fun q hq => hS.2.2 q hq) dg Rr.2.2
theorem g_vret (C : Cx K cc own nL d) (Rr : Rx K none) (dg : decode cc pc = .ok (.return_, 1)) : G K pc L [] μ (some (0, μ)) := by
  intro r μ' hX H locs ls hP hS hl
  cases hX
  rw [show kQ K 0 μ = _ from Rr.1 0 μ]
  exact W.vret C.x C.b Rr.2.1 (fun t ht _ => ⟨rfl, by rw [ht]; exact hP, hS.F ht⟩) (fun q hq => hS.2.2 q hq) dg Rr.2.2
end GROWS
