/-! BASE 4: the making of the cells: a list of cells that grows, the judgement GA -/
abbrev EW : Type := List (Nat × List Value)
def cvA (Ω : OT) : Value → Value
  | .ref n => .ref (oF Ω n)
  | .long _ => .ref (oS Ω 2)
  | v => v
def rfA (Ω : OT) : Value → Option Nat
  | .ref n => some (oF Ω n)
  | _ => none
def ivA : Value → Int32
  | .int x => x
  | _ => 0
def ceE (Ω : OT) (q : Nat × List Value) : va_E :=
  if q.1 < 10 then .inr (q.1, q.2.map (cvA Ω))
  else if q.1 < 100 then .inl (oC Ω (q.1 - 9), q.2.length, .inr (.inr (.inr (.inr (fun i => rfA Ω (q.2.getD i .null))))))
  else .inl (oC Ω 0, q.2.length, .inl (fun i => ivA (q.2.getD i (.int 0))))
def cwE (Ω : OT) (E : EW) : va_W := E.mapIdx (fun l e => (oF Ω l, ceE Ω e))
def esl (E : EW) : Nat := (E.map (fun q => q.2.length)).sum
def A0 (Ω : OT) : Nat → Prop := fun q => oF Ω 0 ≤ q
def LIN (Ω : OT) : Prop := ∀ l, oF Ω l = oF Ω 0 + l
theorem cwE_get (Ω : OT) (E : EW) (l : Nat) : (cwE Ω E)[l]? = (E[l]?).map (fun e => (oF Ω l, ceE Ω e)) := by
  simp [cwE, List.getElem?_mapIdx]
theorem cwE_at {Ω : OT} {E : EW} {l : Nat} {e : Nat × List Value} (h : E[l]? = some e) : (cwE Ω E)[l]? = some (oF Ω l, ceE Ω e) := by
  rw [cwE_get, h]
  rfl
theorem cwE_push (Ω : OT) (E : EW) (e : Nat × List Value) : cwE Ω (E ++ [e]) = cwE Ω E ++ [(oF Ω E.length, ceE Ω e)] := by
  simp [cwE, List.mapIdx_append]
theorem cwE_set {Ω : OT} {E : EW} {l : Nat} {e : Nat × List Value} (hl : l < E.length) : (cwE Ω E).set l (oF Ω l, ceE Ω e) = cwE Ω (E.set l e) := by
  apply List.ext_getElem?
  intro k
  rw [cwE_get]
  by_cases hk : k = l
  · subst hk
    rw [List.getElem?_set_self (by simpa [cwE] using hl), List.getElem?_set_self hl]
    rfl
  · rw [List.getElem?_set_ne (fun e => hk e.symm), List.getElem?_set_ne (fun e => hk e.symm), cwE_get]
theorem cwE_D {Ω : OT} (h : LIN Ω) (E : EW) : va_D (A0 Ω) (cwE Ω E) := by
  refine ⟨fun i j p q hi hj he => ?_, fun k q hk => ?_⟩
  · rw [cwE_get] at hi hj
    obtain ⟨a, -, rfl⟩ := Option.map_eq_some_iff.mp hi
    obtain ⟨b, -, rfl⟩ := Option.map_eq_some_iff.mp hj
    have h1 : oF Ω i = oF Ω j := he
    rw [h i, h j] at h1
    omega
  · rw [cwE_get] at hk
    obtain ⟨a, -, rfl⟩ := Option.map_eq_some_iff.mp hk
    show oF Ω 0 ≤ oF Ω k
    rw [h k]
    omega
theorem ceE_obj (Ω : OT) {ci : Nat} (fs : List Value) (h : ci < 10) : ceE Ω (ci, fs) = .inr (ci, fs.map (cvA Ω)) := if_pos h
theorem ceE_int (Ω : OT) {t : Nat} (fs : List Value) (h : 100 ≤ t) : ceE Ω (t, fs) = .inl (oC Ω 0, fs.length, .inl (fun i => ivA (fs.getD i (.int 0)))) := by
  unfold ceE
  rw [if_neg (by show ¬ t < 10; omega), if_neg (by show ¬ t < 100; omega)]
theorem ceE_ref (Ω : OT) {t : Nat} (fs : List Value) (h1 : 10 ≤ t) (h2 : t < 100) : ceE Ω (t, fs) = .inl (oC Ω (t - 9), fs.length, .inr (.inr (.inr (.inr (fun i => rfA Ω (fs.getD i .null)))))) := by
  unfold ceE
  rw [if_neg (by show ¬ t < 10; omega), if_pos h2]
def AOV (U : State) : Prop := ∀ C ∈ ["LeftLacks$Shop", "LeftLacks$Customer", "LeftLacks$Formula", "LeftLacks$Sheet"], va_AO C U
def NTA (U : State) : Prop := NTW U ∧ AOV U
theorem esl_push (E : EW) (e : Nat × List Value) : esl (E ++ [e]) = esl E + e.2.length := by simp [esl]
abbrev KE : Type := (Program × Env × Room × State × MethodId × Array Value × List Frame × Method × Code) × OT × (Nat × Nat × (EW → State → Prop))
def GA (K : KE) (pc : Nat) (L : List (Nat × Value)) (st : List Value) (E : EW) (X : Option EW) : Prop :=
  ∀ E' : EW, X = some E' → ∀ (H : Heap) (locs : List Loc) (ls : Array Slot), va_P (oD K.2.1) cls10 (cwE K.2.1 E) H → H.size = oF K.2.1 0 + E.length → va_S (A0 K.2.1) K.1.2.2.2.1.heap H locs → lv_has ls K.1.2.2.2.2.2.2.2.2.maxLocals L → K.2.2.1 ≤ E.length → K.2.2.2.1 ≤ esl E →
    W K.1.1 K.2.1.1 K.1.2.1 K.1.2.2.1 K.1.2.2.2.1 K.1.2.2.2.2.1 K.1.2.2.2.2.2.1 K.1.2.2.2.2.2.2.1 K.1.2.2.2.2.2.2.2.1 K.1.2.2.2.2.2.2.2.2 H locs (E.length - K.2.2.1) (esl E - K.2.2.2.1) (K.2.2.2.2 E') (F0 K.1.2.2.2.2.1 pc ls st)
abbrev ef (K : KE) (l : Nat) : Nat := K.2.1.2.1 l
/-- what a making method stands on; N and S: how many cells and slots there may be in all -/
def CA (K : KE) (cc : ByteArray) (own yn : String) (nL d N S : Nat) : Prop :=
  K.1.1.tables.exec = Jvm.exec ∧ K.1.2.2.2.2.2.2.2.2.code = cc ∧ K.1.2.2.2.2.2.2.2.2.maxLocals = nL ∧ K.1.2.2.2.1.vm.findClass own = some K.1.2.2.2.2.1.cls ∧ (∀ w ∈ gtbl, w.before K.1.2.2.2.2.2.1 K.1.2.2.2.1 = true) ∧ NTA K.1.2.2.2.1 ∧ va_K (oD K.2.1) cls10 (tys K.2.1) K.1.2.2.2.1 ∧ STB K.2.1 K.1.2.2.2.1 ∧ LIN K.2.1 ∧ K.1.2.2.2.2.2.2.2.1.name = yn ∧ oF K.2.1 0 ≤ K.1.2.2.2.1.heap.size ∧ d ≤ K.1.2.2.1.frames ∧ 64 * d ≤ K.1.2.2.1.locals ∧ N ≤ K.2.2.1 + K.1.2.2.1.cells ∧ S ≤ K.2.2.2.1 + K.1.2.2.1.slots
section CAX
variable {K : KE} {cc : ByteArray} {own yn : String} {nL d N S : Nat}
theorem CA.x (C : CA K cc own yn nL d N S) : K.1.1.tables.exec = Jvm.exec := C.1
theorem CA.b (C : CA K cc own yn nL d N S) : K.1.2.2.2.2.2.2.2.2.code = cc := C.2.1
theorem CA.l (C : CA K cc own yn nL d N S) : K.1.2.2.2.2.2.2.2.2.maxLocals = nL := C.2.2.1
theorem CA.o (C : CA K cc own yn nL d N S) : K.1.2.2.2.1.vm.findClass own = some K.1.2.2.2.2.1.cls := C.2.2.2.1
theorem CA.t (C : CA K cc own yn nL d N S) : ∀ w ∈ gtbl, w.before K.1.2.2.2.2.2.1 K.1.2.2.2.1 = true := C.2.2.2.2.1
theorem CA.n (C : CA K cc own yn nL d N S) : NTA K.1.2.2.2.1 := C.2.2.2.2.2.1
theorem CA.k (C : CA K cc own yn nL d N S) : va_K (oD K.2.1) cls10 (tys K.2.1) K.1.2.2.2.1 := C.2.2.2.2.2.2.1
theorem CA.sb (C : CA K cc own yn nL d N S) : STB K.2.1 K.1.2.2.2.1 := C.2.2.2.2.2.2.2.1
theorem CA.p (C : CA K cc own yn nL d N S) : LIN K.2.1 := C.2.2.2.2.2.2.2.2.1
theorem CA.nm (C : CA K cc own yn nL d N S) : K.1.2.2.2.2.2.2.2.1.name = yn := C.2.2.2.2.2.2.2.2.2.1
theorem CA.z (C : CA K cc own yn nL d N S) : oF K.2.1 0 ≤ K.1.2.2.2.1.heap.size := C.2.2.2.2.2.2.2.2.2.2.1
theorem CA.r (C : CA K cc own yn nL d N S) : d ≤ K.1.2.2.1.frames ∧ 64 * d ≤ K.1.2.2.1.locals ∧ N ≤ K.2.2.1 + K.1.2.2.1.cells ∧ S ≤ K.2.2.2.1 + K.1.2.2.1.slots := C.2.2.2.2.2.2.2.2.2.2.2
end CAX
/-- what it leaves, what it finds -/
def QA (Ω : OT) (E' : EW) : Array Value → State → Outcome → State → Prop := fun _ st o t => o = .returned none ∧ va_P (oD Ω) cls10 (cwE Ω E') t.heap ∧ t.heap.size = oF Ω 0 + E'.length ∧ va_F (A0 Ω) st t
def PA (Ω : OT) (av : List Value) (E : EW) : Array Value → State → Prop := fun a U => a = av.toArray ∧ va_P (oD Ω) cls10 (cwE Ω E) U.heap ∧ U.heap.size = oF Ω 0 + E.length ∧ va_K (oD Ω) cls10 (tys Ω) U ∧ STB Ω U ∧ NTA U ∧ LIN Ω
abbrev rmA (d mc ms : Nat) : Room := { frames := d, cells := mc, slots := ms, locals := 64 * d }
def CtA (Ω : OT) (y : MethodName) (cc : ByteArray) (nL d mc ms : Nat) (av : List Value) (E : EW) (X : Option EW) : Prop :=
  ∀ E' : EW, X = some E' → Met Ω.1 y (Cond.code y cc nL none :: gtbl) (rmA d mc ms) (PA Ω av E) (QA Ω E') mc ms (A0 Ω)
def RA (K : KE) (N S : Nat) : Prop := (∀ E', K.2.2.2.2 E' = MQ K.1.2.2.2.2.2.2.1 (QA K.2.1 E') K.1.2.2.2.2.2.1 K.1.2.2.2.1 (N - K.2.2.1) (S - K.2.2.2.1) (A0 K.2.1)) ∧ K.1.2.2.2.2.2.2.2.1.sig.returnType = none ∧ K.1.2.2.2.2.2.2.2.1.locks = false
theorem CtA_of {Ω : OT} {y : MethodName} {cc : ByteArray} {nL d mc ms : Nat} {av : List Value} {E : EW} {X : Option EW} (hy : plainName y.cls = true) (hlen : (lg_sl av).length ≤ nL)
    (h : ∀ K : KE, K.2.1 = Ω → CA K cc y.cls y.name nL d (E.length + mc) (esl E + ms) → RA K (E.length + mc) (esl E + ms) → GA K 0 (lv_args 0 av) [] E X) : CtA Ω y cc nL d mc ms av E X := by
  intro E' hX
  refine Met.ofW (cc := cc) (maxL := nL) (ret := none) hy rfl ?_
  intro p e s m args below meth c s₁ B hml hv
  obtain ⟨rfl, hP, hz, hK, hsb, hn, hlin⟩ := hv
  have hts := atoms_spec (ws := Cond.code y cc nL none :: gtbl) B.pre
  have hown : s.vm.findClass y.cls = some m.cls := findClass_of_methodNamed B.named
  have hlocks := B.notSynchronized
  have hin : meth.name = y.name := (name_of_methodNamed B.named B.method).1
  have hl := lv_entry av (n := nL) hlen
  rw [lg_entry_eq]
  have key := h ((p, e, (headSpec (Cond.code y cc nL none :: gtbl) (rmA d mc ms)).room, s, m, av.toArray, below, meth, c), Ω, (E.length, esl E, fun E' => MQ below (QA Ω E') av.toArray s mc ms (A0 Ω))) rfl
    ⟨B.exec, B.bytes, hml, hown, fun w hw => hts w (List.mem_cons_of_mem _ hw), hn, hK, hsb, hlin, hin, by show oF Ω 0 ≤ s.heap.size; omega, Nat.le_refl _, Nat.le_refl _, Nat.le_refl _, Nat.le_refl _⟩
    ⟨fun _ => by simp, B.returns, hlocks⟩
  have k2 := key E' hX s.heap [] _ hP hz va_S.rf (by rw [show c.maxLocals = nL from hml]; exact hl) (Nat.le_refl _) (Nat.le_refl _)
  simp only [Nat.sub_self] at k2
  exact k2
section GAROWS
variable {K : KE} {cc : ByteArray} {own yn : String} {nL d N S pc : Nat} {L : List (Nat × Value)} {st : List Value} {E : EW} {X : Option EW}
theorem a_iconst (C : CA K cc own yn nL d N S) {n : Int} (v : Int32) (dg : decode cc pc = .ok (.iconst n, 1)) (hv : Int32.ofInt n = v) (g : GA K (pc + 1) L (.int v :: st) E X) : GA K pc L st E X := fun E' hX H locs ls hP hz hS hl h1 h2 => lv_iconst C.x C.b dg hv (g E' hX H locs ls hP hz hS hl h1 h2)
theorem a_bipush (C : CA K cc own yn nL d N S) {n : Int} (v : Int32) (dg : decode cc pc = .ok (.bipush n, 2)) (hv : (Int8.ofInt n).toInt32 = v) (g : GA K (pc + 2) L (.int v :: st) E X) : GA K pc L st E X := fun E' hX H locs ls hP hz hS hl h1 h2 => lv_bipush C.x C.b dg hv (g E' hX H locs ls hP hz hS hl h1 h2)
theorem a_sipush (C : CA K cc own yn nL d N S) {n : Int} (v : Int32) (dg : decode cc pc = .ok (.sipush n, 3)) (hv : (Int16.ofInt n).toInt32 = v) (g : GA K (pc + 3) L (.int v :: st) E X) : GA K pc L st E X := fun E' hX H locs ls hP hz hS hl h1 h2 => lv_sipush C.x C.b dg hv (g E' hX H locs ls hP hz hS hl h1 h2)
theorem a_iload_n (C : CA K cc own yn nL d N S) {j : Fin 4} {i : Nat} {x : Int32} (dg : decode cc pc = .ok (.iload_n j, 1)) (k : Nat) (hi : (j : Nat) = i) (hk : L[k]? = some (i, .int x)) (g : GA K (pc + 1) L (.int x :: st) E X) : GA K pc L st E X := fun E' hX H locs ls hP hz hS hl h1 h2 => lv_iload_n C.x C.b dg hi (lv_at hl k hk) (g E' hX H locs ls hP hz hS hl h1 h2)
theorem a_aload_n (C : CA K cc own yn nL d N S) {j : Fin 4} {i : Nat} {x : Nat} (dg : decode cc pc = .ok (.aload_n j, 1)) (k : Nat) (hi : (j : Nat) = i) (hk : L[k]? = some (i, .ref x)) (g : GA K (pc + 1) L (.ref x :: st) E X) : GA K pc L st E X := fun E' hX H locs ls hP hz hS hl h1 h2 => lv_aload_n C.x C.b dg hi (lv_at hl k hk) (g E' hX H locs ls hP hz hS hl h1 h2)
theorem a_istore_n (C : CA K cc own yn nL d N S) {j : Fin 4} {i : Nat} {x : Int32} {L' : List (Nat × Value)} (dg : decode cc pc = .ok (.istore_n j, 1)) (hi : (j : Nat) = i) (hn : i < nL) (hL : (i, Value.int x) :: L.filter (fun q => !(q.1 == i) && !(q.1 + 1 == i && q.2.category == 2)) = L') (g : GA K (pc + 1) L' st E X) : GA K pc L (.int x :: st) E X := fun E' hX H locs ls hP hz hS hl h1 h2 => lv_istore_n C.x C.b dg hi hl (by rw [C.l]; exact hn) hL (fun ls2 hl2 => g E' hX H locs ls2 hP hz hS hl2 h1 h2)
theorem a_iinc (C : CA K cc own yn nL d N S) {i k : Nat} {n : Int} {x w : Int32} {kx : Int32 → Option EW} (dg : decode cc pc = .ok (.iinc i n, 3)) (hk : L[k]? = some (i, .int x)) (hw : Int32.ofInt n = w) (hn : i < nL) (L' : Int32 → List (Nat × Value)) (hL : ∀ v, (i, Value.int v) :: L.filter (fun q => !(q.1 == i) && !(q.1 + 1 == i && q.2.category == 2)) = L' v) (g : ∀ v, GA K (pc + 3) (L' v) st E (kx v)) : GA K pc L st E (bnd (x + w) kx) := fun E' hX H locs ls hP hz hS hl h1 h2 => lv_iinc (v := x + w) C.x C.b dg hl hk (by rw [hw]) (by rw [C.l]; exact hn) (hL _) (fun ls2 hl2 => g (x + w) E' hX H locs ls2 hP hz hS hl2 h1 h2)
theorem a_iadd (C : CA K cc own yn nL d N S) {x y : Int32} (dg : decode cc pc = .ok (.iadd, 1)) (g : GA K (pc + 1) L (.int (x + y) :: st) E X) : GA K pc L (.int y :: .int x :: st) E X := fun E' hX H locs ls hP hz hS hl h1 h2 => lv_iadd C.x C.b dg (g E' hX H locs ls hP hz hS hl h1 h2)
theorem a_dup (C : CA K cc own yn nL d N S) {v : Value} (dg : decode cc pc = .ok (.dup, 1)) (hv : v.category = 1) (g : GA K (pc + 1) L (v :: v :: st) E X) : GA K pc L (v :: st) E X := fun E' hX H locs ls hP hz hS hl h1 h2 => lv_dup C.x C.b dg hv (g E' hX H locs ls hP hz hS hl h1 h2)
theorem a_goto (C : CA K cc own yn nL d N S) {off : Int} (tgt : Nat) (dg : decode cc pc = .ok (.goto off, 3)) (ht : (pc : Int) + off = (tgt : Int)) (g : GA K tgt L st E X) : GA K pc L st E X := fun E' hX H locs ls hP hz hS hl h1 h2 => lv_goto C.x C.b dg ht (g E' hX H locs ls hP hz hS hl h1 h2)
theorem a_icmp_ge (C : CA K cc own yn nL d N S) {x y : Int32} {off : Int} (tgt : Nat) {X1 X2 : Option EW} (dg : decode cc pc = .ok (.if_icmp .ge off, 3)) (ht : (pc : Int) + off = (tgt : Int)) (g1 : GA K tgt L st E X1) (g2 : GA K (pc + 3) L st E X2) : GA K pc L (.int y :: .int x :: st) E (if y ≤ x then X1 else X2) := by
  intro E' hX H locs ls hP hz hS hl h1 h2
  exact lv_icmp_ge C.x C.b dg ht (fun q => g1 E' (by rw [if_pos q] at hX; exact hX) H locs ls hP hz hS hl h1 h2) (fun q => g2 E' (by rw [if_neg q] at hX; exact hX) H locs ls hP hz hS hl h1 h2)
theorem a_sub {L' : List (Nat × Value)} (ks : List Nat) (h : lv_pick L ks = L') (g : GA K pc L' st E X) : GA K pc L st E X := fun E' hX H locs ls hP hz hS hl h1 h2 => g E' hX H locs ls hP hz hS (lv_sub hl ks h) h1 h2
theorem a_none : GA K pc L st E none := fun E' hX => by cases hX
theorem a_alen (C : CA K cc own yn nL d N S) {l t : Nat} {vs : List Value} {v : Int32} (he : E[l]? = some (t, vs)) (ht : 100 ≤ t) (hv : Int32.ofNat vs.length = v) (dg : decode cc pc = .ok (.arraylength, 1)) (g : GA K (pc + 1) L (.int v :: st) E X) : GA K pc L (.ref (ef K l) :: st) E X := by
  intro E' hX H locs ls hP hz hS hl h1 h2
  have hc := cwE_at (Ω := K.2.1) he
  rw [ceE_int _ _ ht] at hc
  exact va_alen C.x C.b C.k hP l 0 hc rfl hv dg (g E' hX H locs ls hP hz hS hl h1 h2)
/-- Object.<init> -/
theorem a_obj (C : CA K cc own yn nL d N S) {index a : Nat} (hlk : Cond.methodLink own index Lib.objectInit ∈ gtbl) (hin : Cond.instanceMethod Lib.objectInit ∈ gtbl) (hc : Cond.code Lib.objectInit ⟨#[0xb1]⟩ 1 none ∈ gtbl) (hd : 1 ≤ d) (hr : (st.map fun v => v.category).sum ≤ 8) (dg : decode cc pc = .ok (.invokespecial index, 3)) (g : GA K (pc + 3) L st E X) : GA K pc L (.ref a :: st) E X := by
  intro E' hX H locs ls hP hz hS hl h1 h2
  obtain ⟨r1, r2, -, -⟩ := C.r
  refine W.objInit C.x C.b C.o (C.t _ hlk) (C.t _ hin) (C.t _ hc) rfl hl.1 rfl dg (by omega) ?_ (g E' hX H locs ls hP hz hS hl h1 h2)
  have := lv_room (m := K.1.2.2.2.2.1) (pc := pc) (ls := ls) (rest := Value.ref a :: st) hr
  omega
/-- a new object, a new array -/
theorem a_new (C : CA K cc own yn nL d N S) {ci index Nf : Nat} {C0 : String} {T : u_T} {ty : Nat → FieldType} {kx : EW → Option EW} (F : Fx ci C0 T Nf ty) (fs : List Value) (hfs : ∀ j, j < Nf → defaultValue (ty j) = vp_V fs j) (hcv : ∀ Ω : OT, fs.map (cvA Ω) = fs) (hln : fs.length = Nf) (hcl : Cond.classLink own index C0 ∈ gtbl) (hinst : Cond.instantiable C0 Nf ∈ gtbl) (hini : Cond.initialized C0 ∈ gtbl) (dg : decode cc pc = .ok (.new index, 3))
    (g : ∀ E1 : EW, GA K (pc + 3) L (.ref (ef K E.length) :: st) E1 (kx E1)) : GA K pc L st E (gd (decide (E.length + 1 ≤ N ∧ esl E + Nf ≤ S)) (bnd (E ++ [(ci, fs)]) kx)) := by
  intro E' hX H locs ls hP hz hS hl h1 h2
  obtain ⟨hg, hX⟩ := gd_some hX
  obtain ⟨g1, g2⟩ := of_decide_eq_true hg
  obtain ⟨f1, f2, f3, f4, f5, f6⟩ := F
  obtain ⟨r1, r2, r3, r4⟩ := C.r
  have hKn := C.k.1 ci _ f2
  refine W.newcK C.x C.b C.o (C.t _ hcl) (C.t _ hinst) (C.t _ hini) rfl dg (by omega) (by omega) hKn.2.1 rfl fun H1 kC hkC e1 z1 o1 => ?_
  have hk : ∀ (k : Nat) (x : Nat × va_E), (cwE K.2.1 E)[k]? = some x → H1[x.1]? = H[x.1]? := fun k x hx => o1 x.1 ((hP k x hx).lt)
  have hadr : H.size = oF K.2.1 E.length := by rw [hz, ← C.p]
  have hP1 : va_P (oD K.2.1) cls10 (cwE K.2.1 (E ++ [(ci, fs)])) H1 := by
    rw [cwE_push]
    refine (hP.kept hk).app (fun k x hx => ?_)
    have hz : k < 1 := (List.getElem?_eq_some_iff.mp hx).1
    rw [show k = 0 by omega] at hx
    cases hx
    rw [ceE_obj _ _ f1, hcv, ← hadr]
    exact ⟨_, f2, (u_born ty C.t f3 hKn hkC e1 f4).to hfs⟩
  have key := g (E ++ [(ci, fs)]) E' hX H1 locs ls hP1 (by rw [z1, hz, List.length_append]; rfl) ⟨Nat.le_trans hS.1 (by omega), fun x h1 h2 => (o1 x (Nat.lt_of_lt_of_le h1 hS.1)).trans (hS.2.1 x h1 h2), hS.2.2⟩ hl (by rw [List.length_append]; omega) (by rw [esl_push]; omega)
  rw [esl_push, List.length_append, show E.length + [(ci, fs)].length - K.2.2.1 = E.length - K.2.2.1 + 1 from by simp; omega, show esl E + (ci, fs).2.length - K.2.2.2.1 = esl E - K.2.2.2.1 + Nf from by show esl E + fs.length - _ = _; omega] at key
  rw [show ef K E.length = H.size from hadr.symm] at key
  exact key
theorem rep_get (n i : Nat) (v : Value) : (List.replicate n v).getD i v = v := by
  rw [List.getD_eq_getElem?_getD, List.getElem?_replicate]
  by_cases h : i < n
  · rw [if_pos h]; rfl
  · rw [if_neg h]; rfl
theorem a_newi (C : CA K cc own yn nL d N S) {n : Int32} {M : Nat} {kx : EW → Option EW} (hn : ¬ n < 0) (hM : n.toNatClampNeg = M) (hM2 : M ≤ 1000) (hw : Cond.arrayClass .int ∈ gtbl) (dg : decode cc pc = .ok (.newarray .int, 2))
    (g : ∀ E1 : EW, GA K (pc + 2) L (.ref (ef K E.length) :: st) E1 (kx E1)) : GA K pc L (.int n :: st) E (gd (decide (E.length + 1 ≤ N ∧ esl E + M ≤ S)) (bnd (E ++ [(100 + M, List.replicate M (.int 0))]) kx)) := by
  intro E' hX H locs ls hP hz hS hl h1 h2
  obtain ⟨hg, hX⟩ := gd_some hX
  obtain ⟨g1, g2⟩ := of_decide_eq_true hg
  obtain ⟨r1, r2, r3, r4⟩ := C.r
  refine va_newaK (atype := .int) C.x C.b (C.t _ hw) rfl dg rfl hn hM (by show M * 4 ≤ _; omega) (by omega) (by omega) rfl fun H1 cA e1 z1 o1 hAr hNm => ?_
  have hk : ∀ (k : Nat) (x : Nat × va_E), (cwE K.2.1 E)[k]? = some x → H1[x.1]? = H[x.1]? := fun k x hx => o1 x.1 ((hP k x hx).lt)
  have hadr : H.size = oF K.2.1 E.length := by rw [hz, ← C.p]
  have hcA : cA = oC K.2.1 0 := by
    have h3 : K.1.2.2.2.1.vm.findClass ("[" ++ FieldType.int.toString) = some (oC K.2.1 0) := (C.k.2 0 _ rfl).2
    exact Option.some.inj (hNm.symm.trans h3)
  have hP1 : va_P (oD K.2.1) cls10 (cwE K.2.1 (E ++ [(100 + M, List.replicate M (.int 0))])) H1 := by
    rw [cwE_push]
    refine (hP.kept hk).app (fun k x hx => ?_)
    have hz : k < 1 := (List.getElem?_eq_some_iff.mp hx).1
    rw [show k = 0 by omega] at hx
    cases hx
    rw [ceE_int _ _ (by omega), ← hadr]
    show H1[H.size]? = some (vp_cell _ _)
    rw [e1, hcA, List.length_replicate]
    congr 1
    rw [vp_cell_i]
    congr 1
    funext i
    rw [rep_get]
    rfl
  have key := g (E ++ [(100 + M, List.replicate M (Value.int 0))]) E' hX H1 locs ls hP1 (by rw [z1, hz, List.length_append]; rfl) ⟨Nat.le_trans hS.1 (by omega), fun x h1 h2 => (o1 x (Nat.lt_of_lt_of_le h1 hS.1)).trans (hS.2.1 x h1 h2), hS.2.2⟩ hl (by rw [List.length_append]; omega) (by rw [esl_push]; omega)
  rw [esl_push, List.length_append, show E.length + [(100 + M, List.replicate M (Value.int 0))].length - K.2.2.1 = E.length - K.2.2.1 + 1 from by simp; omega, show esl E + (100 + M, List.replicate M (Value.int 0)).2.length - K.2.2.2.1 = esl E - K.2.2.2.1 + M from by show esl E + (List.replicate M (Value.int 0)).length - _ = _; rw [List.length_replicate]; omega] at key
  rw [show ef K E.length = H.size from hadr.symm] at key
  exact key
theorem a_newq (C : CA K cc own yn nL d N S) {n : Int32} {M t index : Nat} {C0 : String} {kx : EW → Option EW} (hn : ¬ n < 0) (hM : n.toNatClampNeg = M) (hM2 : M ≤ 1000) (ht1 : 10 ≤ t) (ht2 : t < 100) (hty : (tys K.2.1)[t - 9]? = some (oC K.2.1 (t - 9), .object C0)) (hcl : Cond.classLink own index C0 ∈ gtbl) (hov : C0 ∈ ["LeftLacks$Shop", "LeftLacks$Customer", "LeftLacks$Formula", "LeftLacks$Sheet"]) (dg : decode cc pc = .ok (.anewarray index, 3))
    (g : ∀ E1 : EW, GA K (pc + 3) L (.ref (ef K E.length) :: st) E1 (kx E1)) : GA K pc L (.int n :: st) E (gd (decide (E.length + 1 ≤ N ∧ esl E + M ≤ S)) (bnd (E ++ [(t, List.replicate M .null)]) kx)) := by
  intro E' hX H locs ls hP hz hS hl h1 h2
  obtain ⟨hg, hX⟩ := gd_some hX
  obtain ⟨g1, g2⟩ := of_decide_eq_true hg
  obtain ⟨r1, r2, r3, r4⟩ := C.r
  subst hM
  refine W.anew C.x C.b C.o (C.t _ hcl) (va_AO.use (C.n.2 _ hov)) rfl dg rfl hn (by omega) (by omega) (by omega) fun cA kA comp f1 f2 f3 f4 => ?_
  generalize hH1 : H.push ({ cls := cA, slots := Array.replicate n.toNatClampNeg .null, vm := .none } : Cell) = H1
  have z1 : H1.size = H.size + 1 := by rw [← hH1, Array.size_push]
  have e1 : H1[H.size]? = some (arrV cA n.toNatClampNeg (fun _ => .null)) := by rw [← hH1, Array.getElem?_push_size, ← arrV_new]
  have o1 : ∀ q : Nat, q < H.size → H1[q]? = H[q]? := fun q hq => by rw [← hH1, Array.getElem?_push, if_neg (Nat.ne_of_lt hq)]
  have hk : ∀ (k : Nat) (x : Nat × va_E), (cwE K.2.1 E)[k]? = some x → H1[x.1]? = H[x.1]? := fun k x hx => o1 x.1 ((hP k x hx).lt)
  have hadr : H.size = oF K.2.1 E.length := by rw [hz, ← C.p]
  have hcA : cA = oC K.2.1 (t - 9) := by
    obtain ⟨_, _, _, _, _, h3⟩ := (C.k.2 (t - 9) _ hty).2
    exact Option.some.inj (f1.symm.trans h3)
  have hP1 : va_P (oD K.2.1) cls10 (cwE K.2.1 (E ++ [(t, List.replicate n.toNatClampNeg .null)])) H1 := by
    rw [cwE_push]
    refine (hP.kept hk).app (fun k x hx => ?_)
    have hz : k < 1 := (List.getElem?_eq_some_iff.mp hx).1
    rw [show k = 0 by omega] at hx
    cases hx
    rw [ceE_ref _ _ ht1 ht2, ← hadr]
    show H1[H.size]? = some (vp_cell _ _)
    rw [e1, hcA, List.length_replicate]
    congr 1
    rw [vp_cell_q]
    congr 1
    funext i
    rw [rep_get]
    rfl
  have key := g (E ++ [(t, List.replicate n.toNatClampNeg Value.null)]) E' hX H1 locs ls hP1 (by rw [z1, hz, List.length_append]; rfl) ⟨Nat.le_trans hS.1 (by omega), fun x h1 h2 => (o1 x (Nat.lt_of_lt_of_le h1 hS.1)).trans (hS.2.1 x h1 h2), hS.2.2⟩ hl (by rw [List.length_append]; omega) (by rw [esl_push]; omega)
  rw [esl_push, List.length_append, show E.length + [(t, List.replicate n.toNatClampNeg Value.null)].length - K.2.2.1 = E.length - K.2.2.1 + 1 from by simp; omega, show esl E + (t, List.replicate n.toNatClampNeg Value.null).2.length - K.2.2.2.1 = esl E - K.2.2.2.1 + n.toNatClampNeg from by show esl E + (List.replicate n.toNatClampNeg Value.null).length - _ = _; rw [List.length_replicate]; omega] at key
  rw [show ef K E.length = H.size from hadr.symm] at key
  exact key
theorem sum_set {l : List Nat} {k a b : Nat} (h : l[k]? = some a) : (l.set k b).sum + a = l.sum + b := by
  induction l generalizing k with
  | nil => simp at h
  | cons x r ih =>
    cases k with
    | zero =>
      simp at h
      subst h
      simp
      omega
    | succ k =>
      simp at h
      have := ih h
      simp
      omega
theorem esl_set {E : EW} {l : Nat} {e e1 : Nat × List Value} (h : E[l]? = some e) (hl : e1.2.length = e.2.length) : esl (E.set l e1) = esl E := by
  unfold esl
  rw [List.map_set]
  have h1 : (E.map (fun q => q.2.length))[l]? = some e.2.length := by rw [List.getElem?_map, h]; rfl
  have := sum_set (b := e1.2.length) h1
  omega
def eput (E : EW) (l ci k : Nat) (v : Value) : Option EW := match E[l]? with
  | some (t, fs) => gd (decide (t = ci ∧ k < fs.length)) (some (E.set l (ci, fs.set k v)))
  | none => none
theorem eput_some {E E1 : EW} {l ci k : Nat} {v : Value} (h : eput E l ci k v = some E1) : ∃ fs, E[l]? = some (ci, fs) ∧ k < fs.length ∧ E1 = E.set l (ci, fs.set k v) := by
  unfold eput at h
  cases he : E[l]? with
  | none => rw [he] at h; cases h
  | some e =>
    obtain ⟨t, fs⟩ := e
    rw [he] at h
    obtain ⟨h1, h2⟩ := gd_some h
    obtain ⟨h3, h4⟩ := of_decide_eq_true h1
    subst h3
    exact ⟨fs, rfl, h4, (Option.some.inj h2).symm⟩
/-- what every change of one cell needs -/
theorem a_step {E' E1 : EW} {l : Nat} {e e1 : Nat × List Value} {locs : List Loc} {ls : Array Slot} {H H1 : Heap} {j : Nat} (C : CA K cc own yn nL d N S) (he : E[l]? = some e) (hE : E1 = E.set l e1) (hln : e1.2.length = e.2.length) (hz : H.size = oF K.2.1 0 + E.length) (hS : va_S (A0 K.2.1) K.1.2.2.2.1.heap H locs) (hl : lv_has ls K.1.2.2.2.2.2.2.2.2.maxLocals L) (h1 : K.2.2.1 ≤ E.length) (h2 : K.2.2.2.1 ≤ esl E)
    (z : H1.size = H.size) (oq : ∀ q : Nat, q ≠ oF K.2.1 l → H1[q]? = H[q]?) (hP : va_P (oD K.2.1) cls10 (cwE K.2.1 E) H) (hat : va_at (oD K.2.1) cls10 (oF K.2.1 l, ceE K.2.1 e1) H1) (hX : X = some E') (g : GA K pc L st E1 X) :
    W K.1.1 K.2.1.1 K.1.2.1 K.1.2.2.1 K.1.2.2.2.1 K.1.2.2.2.2.1 K.1.2.2.2.2.2.1 K.1.2.2.2.2.2.2.1 K.1.2.2.2.2.2.2.2.1 K.1.2.2.2.2.2.2.2.2 H1 (locs ++ [⟨oF K.2.1 l, j⟩]) (E.length - K.2.2.1) (esl E - K.2.2.2.1) (K.2.2.2.2 E') (F0 K.1.2.2.2.2.1 pc ls st) := by
  have hlt : l < E.length := (List.getElem?_eq_some_iff.mp he).1
  have hes : esl E1 = esl E := by rw [hE]; exact esl_set he hln
  have hel : E1.length = E.length := by rw [hE, List.length_set]
  have hA : A0 K.2.1 (oF K.2.1 l) := by show oF K.2.1 0 ≤ oF K.2.1 l; rw [C.p l]; omega
  have hP1 : va_P (oD K.2.1) cls10 (cwE K.2.1 E1) H1 := by
    rw [hE, ← cwE_set hlt]
    exact hP.set (cwE_D C.p E) (cwE_at he) hat oq
  have key := g E' hX H1 (locs ++ [⟨oF K.2.1 l, j⟩]) ls hP1 (by rw [z, hz, hel]) (hS.put z oq hA) hl (by rw [hel]; exact h1) (by rw [hes]; exact h2)
  rw [hes, hel] at key
  exact key
theorem a_put (C : CA K cc own yn nL d N S) {ci k l index Nf : Nat} {C0 : String} {T : u_T} {ty : Nat → FieldType} {v w : Value} {kx : EW → Option EW} (F : Fx ci C0 T Nf ty) (hk : k < Nf) (hw : cvA K.2.1 v = w) (hT : (T k).1 = C0) (hfin : (T k).2.2.2 = false ∨ ((T k).2.2.2 = true ∧ yn = "<init>" ∧ C0 = own)) (hn : narrow (ty k) w = w) (hfit : fits (ty k) w = true) (hlink : Cond.fieldLink own index C0 (T k).2.1 (T k).2.2.1 ∈ gtbl) (dg : decode cc pc = .ok (.putfield index, 3))
    (g : ∀ E1 : EW, GA K (pc + 3) L st E1 (kx E1)) : GA K pc L (w :: .ref (ef K l) :: st) E ((eput E l ci k v).bind kx) := by
  intro E' hX H locs ls hP hz hS hl h1 h2
  obtain ⟨E1, hE1, hX⟩ := Option.bind_eq_some_iff.mp hX
  obtain ⟨fs, he, hkf, hE⟩ := eput_some hE1
  obtain ⟨f1, f2, f3, f4, f5, f6⟩ := F
  have hc := cwE_at (Ω := K.2.1) he
  rw [ceE_obj _ _ f1] at hc
  have hap := va_apart (own := own) C.t f3 ty f4 f5 C.k f2
  obtain ⟨r, h3, cell, q1, q2, q3, q4⟩ := hP l _ hc
  have hr : r = (C0, T, Nf) := Option.some.inj (h3.symm.trans f2)
  subst hr
  obtain ⟨hSl, hfc, kC, hkC, hkind⟩ := C.k.1 ci _ f2
  obtain ⟨cf, kf', fi, f, hi, hsl⟩ := hSl k hk
  have hst := (u_facts hfc hkC (u_lays C.t f3 hk) hi).1
  have hlay := C.t _ (f3 _ (u_in_lay hk))
  unfold u_lay at hlay
  have hlk := C.t _ hlink
  have hi2 : K.1.2.2.2.1.fieldFound? C0 (T k).2.1 (T k).2.2.1 = some (cf, kf', fi, f) := by rw [← hT]; exact hi
  have key : ∀ H' : Heap, H'[oF K.2.1 l]? = some (cell.setSlot (oD K.2.1 |>.2 ci k) w) → H'.size = H.size → (∀ q : Nat, q ≠ oF K.2.1 l → H'[q]? = H[q]?) → ∀ j : Nat, W K.1.1 K.2.1.1 K.1.2.1 K.1.2.2.1 K.1.2.2.2.1 K.1.2.2.2.2.1 K.1.2.2.2.2.2.1 K.1.2.2.2.2.2.2.1 K.1.2.2.2.2.2.2.2.1 K.1.2.2.2.2.2.2.2.2 H' (locs ++ [⟨oF K.2.1 l, j⟩]) (E.length - K.2.2.1) (esl E - K.2.2.2.1) (K.2.2.2.2 E') (F0 K.1.2.2.2.2.1 (pc + 3) ls st) := by
    intro H' e1 e2 e3 j
    refine a_step C he hE (by simp) hz hS hl h1 h2 e2 e3 hP ?_ hX (g E1)
    rw [ceE_obj _ _ f1, List.map_set, hw]
    exact ⟨_, f2, t_OB.to (V := updV (vp_V (fs.map (cvA K.2.1))) k w) ⟨_, e1, q2, q3, t_set q4 hap hk w⟩ (fun j _ => vp_updV_set (by rw [List.length_map]; exact hkf) w j)⟩
  rcases hfin with hfin | ⟨hfin, hyn, hdecl⟩
  · rw [if_neg (by rw [hfin]; decide)] at hlay
    have h6 := u_store hfc hkC hkind hlay hi (f4 k hk) hn hfit
    refine W.putK C.x C.b (f := f) ⟨C.o, hlk, ⟨_, _, _, hi2⟩, hst⟩ (by rw [q2]; exact h6) q1 q3 (by rw [hsl]; exact k2_hasslot (q4 k hk)) rfl rfl dg fun H' e1 e2 e3 => ?_
    rw [hsl] at e1 ⊢
    exact key H' e1 e2 e3 _
  · rw [if_pos hfin] at hlay
    have hcf : K.1.2.2.2.2.1.cls = cf := by
      obtain ⟨_, _, c', _, _, _, -, -, hf', -, -, -, hown2, -⟩ := Cond.laysFinal_spec hlay
      have e1 : c' = cf := by have := hi.symm.trans hf'; simp at this; exact this.1.symm
      rw [hT, hdecl] at hown2
      rw [← e1]; exact Option.some.inj (C.o.symm.trans hown2)
    have h6 := u_fits hfc hkC hkind (Or.inr hlay) hi (f4 k hk) hn hfit
    refine W.putFinK C.x C.b C.o hlk hi2 hst hcf (by rw [C.nm]; exact hyn) (by rw [q2]; exact h6) q1 q3 (by rw [hsl]; exact k2_hasslot (q4 k hk)) rfl rfl dg fun H' e1 e2 e3 => ?_
    rw [hsl] at e1 ⊢
    exact key H' e1 e2 e3 _
def egr (E : EW) (l ci k : Nat) : Option Nat := match E[l]? with
  | some (t, fs) => gd (decide (t = ci)) (match fs[k]? with
    | some (.ref n) => some n
    | _ => none)
  | none => none
theorem egr_some {E : EW} {l ci k n : Nat} (h : egr E l ci k = some n) : ∃ fs, E[l]? = some (ci, fs) ∧ fs[k]? = some (.ref n) := by
  unfold egr at h
  cases he : E[l]? with
  | none => rw [he] at h; cases h
  | some e =>
    obtain ⟨t, fs⟩ := e
    rw [he] at h
    obtain ⟨h1, h2⟩ := gd_some h
    have h3 := of_decide_eq_true h1
    subst h3
    refine ⟨fs, rfl, ?_⟩
    cases hf : fs[k]? with
    | none => rw [hf] at h2; cases h2
    | some v =>
      rw [hf] at h2
      cases v <;> first | cases h2 | skip
      rfl
theorem a_getr (C : CA K cc own yn nL d N S) {ci k l index Nf : Nat} {C0 : String} {T : u_T} {ty : Nat → FieldType} {kx : Nat → Option EW} (F : Fx ci C0 T Nf ty) (hk : k < Nf) (hT : (T k).1 = C0) (hlink : Cond.fieldLink own index C0 (T k).2.1 (T k).2.2.1 ∈ gtbl) (dg : decode cc pc = .ok (.getfield index, 3)) (g : ∀ n : Nat, GA K (pc + 3) L (.ref (ef K n) :: st) E (kx n)) : GA K pc L (.ref (ef K l) :: st) E ((egr E l ci k).bind kx) := by
  intro E' hX H locs ls hP hz hS hl h1 h2
  obtain ⟨n, hn, hX⟩ := Option.bind_eq_some_iff.mp hX
  obtain ⟨fs, he, hf⟩ := egr_some hn
  obtain ⟨f1, f2, f3, f4, f5, f6⟩ := F
  have hc := cwE_at (Ω := K.2.1) he
  rw [ceE_obj _ _ f1] at hc
  refine va_get (ref := C0) C.x C.b C.t f3 C.o C.k hP l hc f2 k hk (C.t _ hlink) (fun x hx => by rw [hT] at hx; exact hx) (v := .ref (ef K n)) ?_ dg (g n E' hX H locs ls hP hz hS hl h1 h2)
  rw [List.getElem?_map, hf]
  rfl
/-- a number into an array of ints -/
def eist (E : EW) (l t : Nat) (i : Int32) (x : Int32) : Option EW := match E[l]? with
  | some (u, vs) => gd (decide (u = t ∧ 100 ≤ t) && inb i vs.length) (some (E.set l (t, vs.set i.toNatClampNeg (.int x))))
  | none => none
theorem eist_some {E E1 : EW} {l t : Nat} {i x : Int32} (h : eist E l t i x = some E1) : ∃ vs, E[l]? = some (t, vs) ∧ 100 ≤ t ∧ inb i vs.length = true ∧ E1 = E.set l (t, vs.set i.toNatClampNeg (.int x)) := by
  unfold eist at h
  cases he : E[l]? with
  | none => rw [he] at h; cases h
  | some e =>
    obtain ⟨u, vs⟩ := e
    rw [he] at h
    obtain ⟨h1, h2⟩ := gd_some h
    rw [Bool.and_eq_true] at h1
    obtain ⟨h3, h4⟩ := of_decide_eq_true h1.1
    subst h3
    exact ⟨vs, rfl, h4, h1.2, (Option.some.inj h2).symm⟩
theorem a_iast (C : CA K cc own yn nL d N S) {l t : Nat} {i x : Int32} {kx : EW → Option EW} (dg : decode cc pc = .ok (.iastore, 1)) (g : ∀ E1 : EW, GA K (pc + 1) L st E1 (kx E1)) : GA K pc L (.int x :: .int i :: .ref (ef K l) :: st) E ((eist E l t i x).bind kx) := by
  intro E' hX H locs ls hP hz hS hl h1 h2
  obtain ⟨E1, hE1, hX⟩ := Option.bind_eq_some_iff.mp hX
  obtain ⟨vs, he, ht, hi, hE⟩ := eist_some hE1
  have hc := cwE_at (Ω := K.2.1) he
  rw [ceE_int _ _ ht] at hc
  have hlt := inb_lt hi
  refine W.iast C.x C.b (hP l _ hc) ((C.k.2 0 _ rfl).1 vs.length (fun j => .int (ivA (vs.getD j (.int 0))))) (fun q => by cases q) (by show ¬ (i < 0 ∨ (arrV _ _ _).slots.size ≤ _); rw [arrV_size]; exact inb_vp hi) rfl rfl dg fun H1 e z oq => ?_
  refine a_step C he hE (by simp) hz hS hl h1 h2 z oq hP ?_ hX (g E1)
  rw [ceE_int _ _ ht]
  show H1[oF K.2.1 l]? = some (vp_cell _ _)
  rw [e]
  rw [vp_cell_i, vp_cell_i, arrV_store]
  simp only [List.length_set]
  congr 2
  funext q
  by_cases hq : q = i.toNatClampNeg
  · subst hq
    simp [updV, ivA, List.getD_eq_getElem?_getD, List.getElem?_set_self hlt]
  · simp [updV, hq, List.getD_eq_getElem?_getD, List.getElem?_set_ne (fun e => hq e.symm)]
/-- an object into an array of objects -/
def east (E : EW) (l t : Nat) (i : Int32) (n ci : Nat) : Option EW := match E[l]? with
  | some (u, vs) => gd (decide (u = t) && inb i vs.length) (match E[n]? with
    | some (c, _) => gd (decide (c = ci)) (some (E.set l (t, vs.set i.toNatClampNeg (.ref n))))
    | none => none)
  | none => none
theorem east_some {E E1 : EW} {l t n ci : Nat} {i : Int32} (h : east E l t i n ci = some E1) : ∃ vs ws, E[l]? = some (t, vs) ∧ inb i vs.length = true ∧ E[n]? = some (ci, ws) ∧ E1 = E.set l (t, vs.set i.toNatClampNeg (.ref n)) := by
  unfold east at h
  cases he : E[l]? with
  | none => rw [he] at h; cases h
  | some e =>
    obtain ⟨u, vs⟩ := e
    rw [he] at h
    obtain ⟨h1, h2⟩ := gd_some h
    rw [Bool.and_eq_true] at h1
    have h3 := of_decide_eq_true h1.1
    subst h3
    cases hf : E[n]? with
    | none => rw [hf] at h2; cases h2
    | some q =>
      obtain ⟨c, ws⟩ := q
      rw [hf] at h2
      obtain ⟨h5, h6⟩ := gd_some h2
      have h7 := of_decide_eq_true h5
      subst h7
      exact ⟨vs, ws, rfl, h1.2, rfl, (Option.some.inj h6).symm⟩
theorem a_aast (C : CA K cc own yn nL d N S) {l t n ci : Nat} {i : Int32} {r : vw_C} {kx : EW → Option EW} (h1t : 10 ≤ t) (h2t : t < 100) (hci : ci < 10) (hr : cls10[ci]? = some r) (hty : (tys K.2.1)[t - 9]? = some (oC K.2.1 (t - 9), .object r.1)) (dg : decode cc pc = .ok (.aastore, 1)) (g : ∀ E1 : EW, GA K (pc + 1) L st E1 (kx E1)) : GA K pc L (.ref (ef K n) :: .int i :: .ref (ef K l) :: st) E ((east E l t i n ci).bind kx) := by
  intro E' hX H locs ls hP hz hS hl h1 h2
  obtain ⟨E1, hE1, hX⟩ := Option.bind_eq_some_iff.mp hX
  obtain ⟨vs, ws, he, hi, hen, hE⟩ := east_some hE1
  have hc := cwE_at (Ω := K.2.1) he
  rw [ceE_ref _ _ h1t h2t] at hc
  have hcn := cwE_at (Ω := K.2.1) hen
  rw [ceE_obj _ _ hci] at hcn
  have hlt := inb_lt hi
  have h0 : ¬ i < 0 := fun q => inb_vp hi (Or.inl q)
  obtain ⟨r', hr', cellV, g1, g2, g3, -⟩ := hP n _ hcn
  have hcls := (C.k.1 ci r hr).2
  obtain ⟨kA, comp, k1, k2, k3, -⟩ := (C.k.2 (t - 9) _ hty).2
  have hcomp : comp = (oD K.2.1).1 ci := Option.some.inj (k3.symm.trans hcls.1)
  subst hcomp
  obtain ⟨kC, hkC, -⟩ := hcls.2
  refine W.aast C.x C.b (hP l _ hc) (fun q h => by cases h) (fun h => by cases h) k1 k2 rfl hkC ⟨h0, by show _ < (arrV _ _ _).slots.size; rw [arrV_size]; exact hlt⟩ g1 (fun q h => by rw [g3] at h; cases h) (by rw [g2]; exact hkC) (by rw [g2]; exact va_assign hcls) rfl rfl dg fun H1 e z oq => ?_
  refine a_step C he hE (by simp) hz hS hl h1 h2 z oq hP ?_ hX (g E1)
  rw [ceE_ref _ _ h1t h2t]
  show H1[oF K.2.1 l]? = some (vp_cell _ _)
  rw [e]
  rw [vp_cell_q, vp_cell_q, arrV_store]
  simp only [List.length_set]
  congr 2
  funext q
  by_cases hq : q = i.toNatClampNeg
  · subst hq
    simp [updV, rfA, va_rf, List.getD_eq_getElem?_getD, List.getElem?_set_self hlt]
  · simp [updV, hq, List.getD_eq_getElem?_getD, List.getElem?_set_ne (fun e => hq e.symm)]
theorem a_str (C : CA K cc "LeftLacks$Reader" yn nL d N S) (dg : decode cc pc = .ok (.ldc 18, 2)) (g : GA K (pc + 2) L (.ref (oS K.2.1 2) :: st) E X) : GA K pc L st E X := fun E' hX H locs ls hP hz hS hl h1 h2 => va_ldcS C.x C.b C.o C.sb.1 dg (g E' hX H locs ls hP hz hS hl h1 h2)
theorem a_vret (C : CA K cc own yn nL d N S) (Rr : RA K N S) (dg : decode cc pc = .ok (.return_, 1)) : GA K pc L [] E (gd (decide (E.length = N ∧ esl E = S)) (some E)) := by
  intro E' hX H locs ls hP hz hS hl h1 h2
  obtain ⟨hg, hX⟩ := gd_some hX
  obtain ⟨g1, g2⟩ := of_decide_eq_true hg
  cases hX
  rw [show K.2.2.2.2 E = _ from Rr.1 E, g1, g2]
  exact W.vret C.x C.b Rr.2.1 (fun t ht _ => ⟨rfl, by rw [ht]; exact hP, by rw [ht]; exact hz, hS.F ht⟩) (fun q hq => hS.2.2 q hq) dg Rr.2.2
theorem PA_blind (Ω : OT) (av : List Value) (E : EW) : FrameBlind (PA Ω av E) := by
  intro a U g mk h
  obtain ⟨h1, h2, h3, h4, h5, h6, h7⟩ := h
  exact ⟨h1, h2, h3, va_K.moved (u := U) (U := U.calling g mk a) (Vm.Alike.refl U.vm) h4, ⟨h5.1.same rfl, h5.2.same rfl⟩, ⟨h6.1.same rfl, fun C hC => va_AO.moved (u := U) (U := U.calling g mk a) (Vm.Alike.refl U.vm) (h6.2 C hC)⟩, h7⟩
theorem PA_at (C : CA K cc own yn nL d N S) {H : Heap} (hP : va_P (oD K.2.1) cls10 (cwE K.2.1 E) H) (hz : H.size = oF K.2.1 0 + E.length) (av : List Value) : ∀ U : State, U.heap = H → K.1.2.2.2.1.WarmedH U.vm → PA K.2.1 av E av.toArray U := by
  intro U hU hW
  exact ⟨rfl, by rw [hU]; exact hP, by rw [hU]; exact hz, va_K.moved hW.alike C.k, C.sb.warm hW, ⟨C.n.1.warm hW, fun C0 hC => va_AO.moved hW.alike (C.n.2 C0 hC)⟩, C.p⟩
def calA (E : EW) (N S mc ms : Nat) (x : Option EW) (k : EW → Option EW) : Option EW := gd (decide (E.length + mc ≤ N ∧ esl E + ms ≤ S)) (x.bind (fun E1 => gd (decide (E1.length = E.length + mc ∧ esl E1 = esl E + ms)) (k E1)))
theorem a_behind (C : CA K cc own yn nL d N S) {mc ms : Nat} {kx : EW → Option EW} {E1 E' : EW} {H : Heap} {locs : List Loc} {ls : Array Slot} {S0 : List Value} {a : Array Value} (h1 : K.2.2.1 ≤ E.length) (h2 : K.2.2.2.1 ≤ esl E) (hS : va_S (A0 K.2.1) K.1.2.2.2.1.heap H locs) (hl : lv_has ls K.1.2.2.2.2.2.2.2.2.maxLocals L)
    (run : CallRun K.1.1 K.2.1.1 K.1.2.1 K.1.2.2.1 K.1.2.2.2.1 K.1.2.2.2.2.1 K.1.2.2.2.2.2.1 K.1.2.2.2.2.2.2.1 K.1.2.2.2.2.2.2.2.1 K.1.2.2.2.2.2.2.2.2 H locs (E.length - K.2.2.1) (esl E - K.2.2.2.1) mc ms (F0 K.1.2.2.2.2.1 pc ls S0) st (QA K.2.1 E1 a) (A0 K.2.1))
    (hg : E1.length = E.length + mc ∧ esl E1 = esl E + ms) (hX : kx E1 = some E') (g : ∀ E1, GA K (pc + 3) L st E1 (kx E1)) : W K.1.1 K.2.1.1 K.1.2.1 K.1.2.2.1 K.1.2.2.2.1 K.1.2.2.2.2.1 K.1.2.2.2.2.2.1 K.1.2.2.2.2.2.2.1 K.1.2.2.2.2.2.2.2.1 K.1.2.2.2.2.2.2.2.2 H locs (E.length - K.2.2.1) (esl E - K.2.2.2.1) (K.2.2.2.2 E') (F0 K.1.2.2.2.2.1 pc ls S0) := by
  intro T hT Z
  obtain ⟨v, st₀, t, T', Lo, h0, Z', hL, e1, ⟨hv, hP1, hz1, hF1, hF2⟩, hgo⟩ := run T hT Z
  cases hv
  subst h0
  have key := g E1 E' hX t.heap (locs ++ Lo) ls hP1 hz1 ⟨Nat.le_trans hS.1 hF1, fun q h1 h3 => by rw [hF2 q (Nat.lt_of_lt_of_le h1 hS.1) h3]; exact hS.2.1 q h1 h3, fun q hq => by
    rcases List.mem_append.mp hq with h | h
    · exact hS.2.2 q h
    · exact hL q h⟩ hl (by omega) (by omega)
  rw [show E1.length - K.2.2.1 = E.length - K.2.2.1 + mc by omega, show esl E1 - K.2.2.2.1 = esl E - K.2.2.2.1 + ms by omega] at key
  obtain ⟨t2, a1, b1⟩ := key T' e1 Z'
  exact ⟨t2, hgo t2 a1, b1⟩
theorem a_callN (C : CA K cc own yn nL d N S) {y : MethodName} {cb : ByteArray} {nb db mc ms index b : Nat} {Xc : Option EW} {kx : EW → Option EW} (hV : Cv y cb nb none 0) (hin : Cond.instanceMethod y ∈ gtbl) (hyn : y.name = "<init>") (hM : CtA K.2.1 y cb nb db mc ms [.ref (ef K b)] E Xc) (hlk : (own, index, y, "LeftLacks") ∈ ntM) (hd : db + 1 ≤ d) (hr : (st.map fun v => v.category).sum ≤ 8) (dg : decode cc pc = .ok (.invokespecial index, 3)) (g : ∀ E1, GA K (pc + 3) L st E1 (kx E1)) : GA K pc L (.ref (ef K b) :: st) E (calA E N S mc ms Xc kx) := by
  intro E' hX H locs ls hP hz hS hl h1 h2
  obtain ⟨hg, hX⟩ := gd_some hX
  obtain ⟨g1, g2⟩ := of_decide_eq_true hg
  obtain ⟨E1, hE1, hX⟩ := Option.bind_eq_some_iff.mp hX
  obtain ⟨hg3, hX⟩ := gd_some hX
  obtain ⟨v1, v2, v3, v4⟩ := hV
  obtain ⟨r1, r2, r3, r4⟩ := C.r
  have cn : va_CN K.1.2.2.1 K.1.2.2.2.1 K.1.2.2.2.2.2.1 own index y "LeftLacks" cb nb none (Cond.code y cb nb none :: gtbl) (rmA db mc ms) mc ms 0 := va_cnB 0 C.t (g_goodIn v1) rfl rfl rfl (C.n.1.1 _ hlk) (C.t _ v2) v3 ⟨by show db + 1 ≤ _; omega, by show 8 + (nb + 11) + 64 * db ≤ _; omega⟩
  have run := va_runIN (l := K.2.1.1) (e := K.1.2.1) (below := K.1.2.2.2.2.2.2.1) (meth := K.1.2.2.2.2.2.2.2.1) (locs := locs) (cells := E.length - K.2.2.1) (slots := esl E - K.2.2.2.1) (As := []) (g := F0 K.1.2.2.2.2.1 pc ls (.ref (ef K b) :: st)) ⟨C.x, C.b, rfl, C.o, C.t⟩ (hM E1 hE1) ⟨cn, hyn, C.t _ hin⟩ ⟨PA_blind _ _ _, PA_at C hP hz _⟩ rfl rfl hl.1 rfl (lv_room hr) dg ⟨by omega, by omega⟩
  exact a_behind C h1 h2 hS hl run.run (of_decide_eq_true hg3) hX g
theorem a_callI (C : CA K cc own yn nL d N S) {y : MethodName} {cb : ByteArray} {nb db mc ms index b : Nat} {Xc : Option EW} {kx : EW → Option EW} (hV : Cv y cb nb none 0) (hin : Cond.instanceMethod y ∈ gtbl) (hyn : y.name = "<init>") (hM : CtA K.2.1 y cb nb db mc ms [.ref (ef K b)] E Xc) (hlk : Cond.methodLink own index y ∈ gtbl) (hd : db + 1 ≤ d) (hr : (st.map fun v => v.category).sum ≤ 8) (dg : decode cc pc = .ok (.invokespecial index, 3)) (g : ∀ E1, GA K (pc + 3) L st E1 (kx E1)) : GA K pc L (.ref (ef K b) :: st) E (calA E N S mc ms Xc kx) := by
  intro E' hX H locs ls hP hz hS hl h1 h2
  obtain ⟨hg, hX⟩ := gd_some hX
  obtain ⟨g1, g2⟩ := of_decide_eq_true hg
  obtain ⟨E1, hE1, hX⟩ := Option.bind_eq_some_iff.mp hX
  obtain ⟨hg3, hX⟩ := gd_some hX
  obtain ⟨v1, v2, v3, v4⟩ := hV
  obtain ⟨r1, r2, r3, r4⟩ := C.r
  have cb : CallB K.1.2.2.1 K.1.2.2.2.1 K.1.2.2.2.2.2.1 own index y cb nb none (Cond.code y cb nb none :: gtbl) (rmA db mc ms) mc ms 0 := callB_of 0 C.t (g_goodIn v1) rfl rfl rfl (C.t _ v2) (C.t _ hlk) v3 ⟨by show db + 1 ≤ _; omega, by show 8 + (nb + 11) + 64 * db ≤ _; omega⟩
  have run := W.runI (l := K.2.1.1) (e := K.1.2.1) (below := K.1.2.2.2.2.2.2.1) (meth := K.1.2.2.2.2.2.2.2.1) (locs := locs) (cells := E.length - K.2.2.1) (slots := esl E - K.2.2.2.1) (As := []) (g := F0 K.1.2.2.2.2.1 pc ls (.ref (ef K b) :: st)) ⟨C.x, C.b, rfl, C.o, C.t⟩ (hM E1 hE1) ⟨cb, hyn, C.t _ hin⟩ ⟨PA_blind _ _ _, PA_at C hP hz _⟩ rfl rfl hl.1 rfl (lv_room hr) dg ⟨by omega, by omega⟩
  exact a_behind C h1 h2 hS hl run (of_decide_eq_true hg3) hX g
theorem a_callS (C : CA K cc own yn nL d N S) {y : MethodName} {cb : ByteArray} {nb db mc ms n index : Nat} {As S0 : List Value} {Xc : Option EW} {kx : EW → Option EW} (hV : Cv y cb nb none n) (hs : Cond.static y ∈ gtbl) (hM : CtA K.2.1 y cb nb db mc ms As E Xc) (hlk : Cond.methodLink own index y ∈ gtbl) (hd : db + 1 ≤ d) (hn : As.length = n) (hst : S0 = As.reverse ++ st) (hr : (st.map fun v => v.category).sum ≤ 8) (dg : decode cc pc = .ok (.invokestatic index, 3)) (g : ∀ E1, GA K (pc + 3) L st E1 (kx E1)) : GA K pc L S0 E (calA E N S mc ms Xc kx) := by
  intro E' hX H locs ls hP hz hS hl h1 h2
  obtain ⟨hg, hX⟩ := gd_some hX
  obtain ⟨g1, g2⟩ := of_decide_eq_true hg
  obtain ⟨E1, hE1, hX⟩ := Option.bind_eq_some_iff.mp hX
  obtain ⟨hg3, hX⟩ := gd_some hX
  obtain ⟨v1, v2, v3, v4⟩ := hV
  obtain ⟨r1, r2, r3, r4⟩ := C.r
  have cb : CallB K.1.2.2.1 K.1.2.2.2.1 K.1.2.2.2.2.2.1 own index y cb nb none (Cond.code y cb nb none :: gtbl) (rmA db mc ms) mc ms n := callB_of n C.t (g_goodIn v1) rfl rfl rfl (C.t _ v2) (C.t _ hlk) v3 ⟨by show db + 1 ≤ _; omega, by show 8 + (nb + 11) + 64 * db ≤ _; omega⟩
  have run := W.runS (l := K.2.1.1) (e := K.1.2.1) (below := K.1.2.2.2.2.2.2.1) (meth := K.1.2.2.2.2.2.2.2.1) (locs := locs) (cells := E.length - K.2.2.1) (slots := esl E - K.2.2.2.1) (g := F0 K.1.2.2.2.2.1 pc ls S0) ⟨C.x, C.b, rfl, C.o, C.t⟩ (hM E1 hE1) ⟨cb, C.t _ hs⟩ ⟨PA_blind _ _ _, PA_at C hP hz _⟩ rfl hn hl.1 hst (lv_room hr) dg ⟨by omega, by omega⟩
  exact a_behind C h1 h2 hS hl run (of_decide_eq_true hg3) hX g
end GAROWS
