/-! BASE 3: calls, the JDK's own, arrays that are only read, switches -/
def cal (x : Res) (k : Int32 → Mem → Res) : Res := x.bind (fun q => k q.1 q.2)
section GCALLS
variable {K : KT} {cc : ByteArray} {own : String} {nL d pc : Nat} {L : List (Nat × Value)} {st : List Value} {μ : Mem} {X : Res}
theorem W_callG {p : Program} {l : Launch} {e : Env} {R : Room} {s : State} {m : MethodId} {args : Array Value} {below : List Frame} {meth : Method} {c : Code} {H : Heap} {locs : List Loc} {cells slots : Nat} {Q : State → Prop} {g : JFrame} {rest : List Value} {Qa : State → Outcome → State → Prop} {free : Addr → Prop}
    (hr : CallRun p l e R s m args below meth c H locs cells slots 0 0 g rest Qa free) (kk : ∀ (v : Option Value) (st₀ t : State) (Lo : List Loc), st₀.heap = H → Qa st₀ (.returned v) t → (∀ q ∈ Lo, free q.base) → W p l e R s m args below meth c t.heap (locs ++ Lo) cells slots Q { g with pc := g.pc + 3, stack := v.toList ++ rest }) : W p l e R s m args below meth c H locs cells slots Q g := by
  intro T hT Z
  obtain ⟨v, st₀, t, T', Lo, h0, Z', hL, e1, hq, hgo⟩ := hr T hT Z
  obtain ⟨t2, a1, b1⟩ := kk v st₀ t Lo h0 hq hL T' e1 Z'
  exact ⟨t2, hgo t2 a1, b1⟩
theorem Pm_blind (Ω : OT) (av : List Value) (μ : Mem) : FrameBlind (Pm Ω av μ) := by
  intro a U g mk h
  obtain ⟨h1, h2, h3, h4, h5, h6, h7⟩ := h
  exact ⟨h1, h2, va_K.moved (u := U) (U := U.calling g mk a) (Vm.Alike.refl U.vm) h3, h4, STA.moved (u := U) (U := U.calling g mk a) (Vm.Alike.refl U.vm) h5, ⟨h6.1.same rfl, h6.2.same rfl⟩, h7.same rfl⟩
theorem Pm_at (C : Cx K cc own nL d) {H : Heap} {locs : List Loc} (hP : va_P (oD (kO K)) cls10 (wl (kO K) μ) H) (hS : va_S (AA (kO K)) (ks K).heap H locs) (av : List Value) : ∀ U : State, U.heap = H → (ks K).WarmedH U.vm → Pm (kO K) av μ av.toArray U := by
  intro U hU hW
  refine ⟨rfl, by rw [hU]; exact hP, va_K.moved hW.alike C.k, C.p, ?_, C.sb.warm hW, C.n.warm hW⟩
  rw [hU]
  exact (C.sa.kept hS.2.1).moved hW.alike
/-- what the tables say of a method that is called -/
def Cv (y : MethodName) (cb : ByteArray) (nb : Nat) (ret : Option FieldType) (n : Nat) : Prop := Cond.code y cb nb ret ∈ gtbl ∧ Cond.initialized y.cls ∈ gtbl ∧ (y.cls ≠ "java/lang/invoke/MethodHandle" ∧ y.cls ≠ "java/lang/invoke/VarHandle" ∧ (parseMethodDescriptor y.desc).map (fun d => d.parameters.length) = some n) ∧ nb ≤ 45
def CvV (y : MethodName) (cb : ByteArray) (nb : Nat) (ret : Option FieldType) (n ci : Nat) : Prop := Cv y cb nb ret n ∧ Cond.instanceMethod y ∈ gtbl ∧ Cond.selects y.cls y y ∈ gtbl ∧ ci < 10 ∧ (cls10[ci]?).map (fun q => q.1) = some y.cls
theorem cb_of (C : Cx K cc own nL d) {y : MethodName} {cb : ByteArray} {nb n db index : Nat} {ret : Option FieldType} (hV : Cv y cb nb ret n) (hlk : Cond.methodLink own index y ∈ gtbl) (hd : db + 1 ≤ d) : CallB (kR K) (ks K) (ka K) own index y cb nb ret (Cond.code y cb nb ret :: gtbl) (rmD db) 0 0 n := by
  obtain ⟨v1, v2, v3, v4⟩ := hV
  obtain ⟨r1, r2, -, -⟩ := C.r
  refine callB_of n C.t (g_goodIn v1) rfl rfl rfl (C.t _ v2) (C.t _ hlk) v3 ⟨?_, ?_⟩
  · show db + 1 ≤ _
    omega
  · show 8 + (nb + 11) + 64 * db ≤ _
    omega
theorem g_behind (C : Cx K cc own nL d) {ret : Option FieldType} {Xc : Res} {kx : Int32 → Mem → Res} {r1 : Int32} {μ1 : Mem} {H : Heap} {locs Lo : List Loc} {ls : Array Slot} {v : Option Value} {st₀ t : State} {a : Array Value} {r : Int32} {μ' : Mem} (hS : va_S (AA (kO K)) (ks K).heap H locs) (hl : lv_has ls (kc K).maxLocals L)
    (h0 : st₀.heap = H) (hq : Qm (kO K) ret r1 μ1 a st₀ (.returned v) t) (hLo : ∀ q ∈ Lo, AA (kO K) q.base) (h2 : kx r1 μ1 = some (r, μ')) (g : ∀ r1 μ1, G K (pc + 3) L ((rvv ret r1).toList ++ st) μ1 (kx r1 μ1)) : KW K t.heap (locs ++ Lo) (kQ K r μ') (F0 (km K) (pc + 3) ls (v.toList ++ st)) := by
  obtain ⟨hv, hP1, hF1, hF2⟩ := hq
  cases hv
  subst h0
  refine g r1 μ1 r μ' h2 t.heap (locs ++ Lo) ls hP1 ⟨Nat.le_trans hS.1 hF1, fun q h1 h3 => ?_, fun q hq => ?_⟩ hl
  · rw [hF2 q (Nat.lt_of_lt_of_le h1 hS.1) h3]
    exact hS.2.1 q h1 h3
  · rcases List.mem_append.mp hq with h | h
    · exact hS.2.2 q h
    · exact hLo q h
theorem g_callV (C : Cx K cc own nL d) {y : MethodName} {cb : ByteArray} {nb n db index ci b : Nat} {ret : Option FieldType} {As S : List Value} {Xc : Res} {kx : Int32 → Mem → Res} (hV : CvV y cb nb ret n ci) (hM : Ct (kO K) y cb nb ret db (.ref (kf K b) :: As) μ Xc) (hlk : Cond.methodLink own index y ∈ gtbl) (ht : tg b = ci) (hd : db + 1 ≤ d) (hn : As.length = n) (hst : S = As.reverse ++ .ref (kf K b) :: st) (hr : (st.map fun v => v.category).sum ≤ 8) (dg : decode cc pc = .ok (.invokevirtual index, 3))
    (g : ∀ r1 μ1, G K (pc + 3) L ((rvv ret r1).toList ++ st) μ1 (kx r1 μ1)) : G K pc L S μ (cal Xc kx) := by
  intro r μ' hX H locs ls hP hS hl
  obtain ⟨⟨r1, μ1⟩, h1, h2⟩ := Option.bind_eq_some_iff.mp hX
  obtain ⟨hV, hin, hsel, hci, hcl⟩ := hV
  have he := wl_get (kO K) μ (tg_ltO ht (by omega))
  rw [ent_obj (kO K) μ ht hci] at he
  obtain ⟨qc, hq1, hq2⟩ := Option.map_eq_some_iff.mp hcl
  have hrc := va_recv C.k hP hq1 he
  rw [hq2] at hrc
  have run := W.runV (l := (kO K).1) (e := ke K) (below := kb K) (meth := kt K) (locs := locs) (cells := kn K) (slots := kz K) (g := F0 (km K) pc ls S) ⟨C.x, C.b, rfl, C.o, C.t⟩ (hM r1 μ1 h1) ⟨cb_of C hV hlk hd, C.t _ hin, C.t _ hsel⟩ ⟨Pm_blind _ _ _, hrc, Pm_at C hP hS _⟩ rfl hn hl.1 hst (lv_room hr) dg ⟨C.r.2.2.1, C.r.2.2.2⟩
  exact W_callG run (fun v st₀ t Lo h0 hq hLo => g_behind C (Xc := Xc) hS hl h0 hq hLo h2 g)
theorem g_callS (C : Cx K cc own nL d) {y : MethodName} {cb : ByteArray} {nb n db index : Nat} {ret : Option FieldType} {As S : List Value} {Xc : Res} {kx : Int32 → Mem → Res} (hV : Cv y cb nb ret n) (hs : Cond.static y ∈ gtbl) (hM : Ct (kO K) y cb nb ret db As μ Xc) (hlk : Cond.methodLink own index y ∈ gtbl) (hd : db + 1 ≤ d) (hn : As.length = n) (hst : S = As.reverse ++ st) (hr : (st.map fun v => v.category).sum ≤ 8) (dg : decode cc pc = .ok (.invokestatic index, 3))
    (g : ∀ r1 μ1, G K (pc + 3) L ((rvv ret r1).toList ++ st) μ1 (kx r1 μ1)) : G K pc L S μ (cal Xc kx) := by
  intro r μ' hX H locs ls hP hS hl
  obtain ⟨⟨r1, μ1⟩, h1, h2⟩ := Option.bind_eq_some_iff.mp hX
  have run := W.runS (l := (kO K).1) (e := ke K) (below := kb K) (meth := kt K) (locs := locs) (cells := kn K) (slots := kz K) (g := F0 (km K) pc ls S) ⟨C.x, C.b, rfl, C.o, C.t⟩ (hM r1 μ1 h1) ⟨cb_of C hV hlk hd, C.t _ hs⟩ ⟨Pm_blind _ _ _, Pm_at C hP hS _⟩ rfl hn hl.1 hst (lv_room hr) dg ⟨C.r.2.2.1, C.r.2.2.2⟩
  exact W_callG run (fun v st₀ t Lo h0 hq hLo => g_behind C (Xc := Xc) hS hl h0 hq hLo h2 g)
theorem g_callN (C : Cx K cc own nL d) {y : MethodName} {cb : ByteArray} {nb n db index : Nat} {ret : Option FieldType} {As S : List Value} {Xc : Res} {kx : Int32 → Mem → Res} (hV : Cv y cb nb ret n) (hs : Cond.static y ∈ gtbl) (hM : Ct (kO K) y cb nb ret db As μ Xc) (hlk : (own, index, y, "LeftLacks") ∈ ntM) (hd : db + 1 ≤ d) (hn : As.length = n) (hst : S = As.reverse ++ st) (hr : (st.map fun v => v.category).sum ≤ 8) (dg : decode cc pc = .ok (.invokestatic index, 3))
    (g : ∀ r1 μ1, G K (pc + 3) L ((rvv ret r1).toList ++ st) μ1 (kx r1 μ1)) : G K pc L S μ (cal Xc kx) := by
  intro r μ' hX H locs ls hP hS hl
  obtain ⟨⟨r1, μ1⟩, h1, h2⟩ := Option.bind_eq_some_iff.mp hX
  obtain ⟨v1, v2, v3, v4⟩ := hV
  obtain ⟨r1', r2', -, -⟩ := C.r
  have cn : va_CN (kR K) (ks K) (ka K) own index y "LeftLacks" cb nb ret (Cond.code y cb nb ret :: gtbl) (rmD db) 0 0 n := va_cnB n C.t (g_goodIn v1) rfl rfl rfl (C.n.1 _ hlk) (C.t _ v2) v3 ⟨by show db + 1 ≤ _; omega, by show 8 + (nb + 11) + 64 * db ≤ _; omega⟩
  have run := va_runSN (l := (kO K).1) (e := ke K) (below := kb K) (meth := kt K) (locs := locs) (cells := kn K) (slots := kz K) (g := F0 (km K) pc ls S) ⟨C.x, C.b, rfl, C.o, C.t⟩ (hM r1 μ1 h1) ⟨cn, C.t _ hs, trivial⟩ ⟨Pm_blind _ _ _, Pm_at C hP hS _⟩ rfl hn hl.1 hst (lv_room hr) dg ⟨C.r.2.2.1, C.r.2.2.2⟩
  exact W_callG run.run (fun v st₀ t Lo h0 hq hLo => g_behind C (Xc := Xc) hS hl h0 hq hLo h2 g)
theorem g_mmin (C : Cx K cc own nL d) {index : Nat} {x y : Int32} (hlk : Cond.methodLink own index Lib.Math.min.name ∈ gtbl) (hs : Cond.static Lib.Math.min.name ∈ gtbl) (hi : Cond.initialized "java/lang/Math" ∈ gtbl) (hc : Cond.code Lib.Math.min.name Lib.Math.min.code 2 (some .int) ∈ gtbl) (hd : 1 ≤ d) (hr : (st.map fun v => v.category).sum ≤ 8) (dg : decode cc pc = .ok (.invokestatic index, 3)) (g : G K (pc + 3) L (.int (imin x y) :: st) μ X) : G K pc L (.int y :: .int x :: st) μ X := by
  intro r μ' hX H locs ls hP hS hl
  obtain ⟨r1, r2, r3, r4⟩ := C.r
  exact va_mmin C.x C.b hl.1.symm C.o (C.t _ hlk) (C.t _ hs) (C.t _ hi) (C.t _ hc) (by omega) (by omega) r3 r4 dg (g r μ' hX H locs ls hP hS hl)
theorem g_mmax (C : Cx K cc own nL d) {index : Nat} {x y : Int32} (hlk : Cond.methodLink own index Lib.Math.max.name ∈ gtbl) (hs : Cond.static Lib.Math.max.name ∈ gtbl) (hi : Cond.initialized "java/lang/Math" ∈ gtbl) (hc : Cond.code Lib.Math.max.name Lib.Math.max.code 2 (some .int) ∈ gtbl) (hd : 1 ≤ d) (hr : (st.map fun v => v.category).sum ≤ 8) (dg : decode cc pc = .ok (.invokestatic index, 3)) (g : G K (pc + 3) L (.int (imax x y) :: st) μ X) : G K pc L (.int y :: .int x :: st) μ X := by
  intro r μ' hX H locs ls hP hS hl
  obtain ⟨r1, r2, r3, r4⟩ := C.r
  exact va_mmax C.x C.b hl.1.symm C.o (C.t _ hlk) (C.t _ hs) (C.t _ hi) (C.t _ hc) (by omega) (by omega) r3 r4 dg (g r μ' hX H locs ls hP hS hl)
/-- System.arraycopy of ints -/
def mcpy (μ : Mem) (a sp b dp n : Nat) : Mem := fun l i => if l = b then va_cpy (fun j => μ a j) (fun j => μ b j) sp dp n i else μ l i
def cpok (sp dp n : Int32) (na nb : Nat) : Bool := decide (¬ sp < 0) && (decide (¬ dp < 0) && (decide (¬ n < 0) && (decide (sp.toNatClampNeg + n.toNatClampNeg ≤ na) && decide (dp.toNatClampNeg + n.toNatClampNeg ≤ nb))))
theorem wl_setc {Ω : OT} {μ : Mem} {a b nb : Nat} (h : tg b = 100 + nb) (sp dp n : Nat) : (wl Ω μ).set b (oF Ω b, .inl (oC Ω 0, nb, .inl (va_cpy (fun j => μ a j) (fun j => μ b j) sp dp n))) = wl Ω (mcpy μ a sp b dp n) := by
  refine wl_set (tg_ltI h) (fun k hk j => if_neg hk) ?_
  rw [ent_int Ω _ h]
  congr 4
  funext j
  exact if_pos rfl
theorem g_copy (C : Cx K cc own nL d) {index a b na nb : Nat} {sp dp n : Int32} {kx : Mem → Res} (hlk : Cond.methodLink own index arraycopyName ∈ gtbl) (hna : Cond.native arraycopyName ∈ gtbl) (hs : Cond.static arraycopyName ∈ gtbl) (hi : Cond.initialized "java/lang/System" ∈ gtbl) (ha : tg a = 100 + na) (hb : tg b = 100 + nb) (hd : 1 ≤ d) (hr : (st.map fun v => v.category).sum ≤ 8) (dg : decode cc pc = .ok (.invokestatic index, 3))
    (g : ∀ μ1, G K (pc + 3) L st μ1 (kx μ1)) : G K pc L (.int n :: .int dp :: .ref (kf K b) :: .int sp :: .ref (kf K a) :: st) μ (gd (cpok sp dp n na nb) (bnd (mcpy μ a sp.toNatClampNeg b dp.toNatClampNeg n.toNatClampNeg) kx)) := by
  intro r μ' hX H locs ls hP hS hl
  obtain ⟨r1, r2, r3, r4⟩ := C.r
  obtain ⟨hg, h2⟩ := gd_some hX
  unfold cpok at hg
  simp only [Bool.and_eq_true, decide_eq_true_eq] at hg
  obtain ⟨g1, g2, g3, g4, g5⟩ := hg
  have hea := wl_get (kO K) μ (tg_ltI ha)
  rw [ent_int (kO K) μ ha] at hea
  have heb := wl_get (kO K) μ (tg_ltI hb)
  rw [ent_int (kO K) μ hb] at heb
  have hw : nativeFrameWords "java/lang/System" "arraycopy" 5 + 11 ≤ 56 := by decide +kernel
  refine va_copyi C.x C.b hl.1.symm C.o (C.t _ hlk) (C.t _ hna) (C.t _ hs) (C.t _ hi) C.k hP (wl_D C.p μ) hS a b 0 0 hea heb rfl rfl rfl g1 g2 g3 g4 g5 (fun _ _ => rfl) (by omega) (by omega) dg (fun H1 locs1 hP1 hD1 hS1 => ?_)
  rw [wl_setc hb] at hP1
  exact g _ r μ' h2 H1 locs1 ls hP1 hS1 hl
/-- ABOVE and BODIES -/
theorem g_above (C : Cx K cc "LeftLacks" nL d) {index : Nat} (hlk : Cond.fieldLink "LeftLacks" index "LeftLacks" "ABOVE" "[I" ∈ gtbl) (dg : decode cc pc = .ok (.getstatic index, 3)) (g : G K (pc + 3) L (.ref (oS (kO K) 0) :: st) μ X) : G K pc L st μ X := fun r μ' hX H locs ls hP hS hl => va_gets C.x C.b C.sa.1 hS C.o (C.t _ hlk) (fun _ h => h) dg (g r μ' hX H locs ls hP hS hl)
theorem g_aboveN (C : Cx K cc "LeftLacks$Speaker" nL d) (dg : decode cc pc = .ok (.getstatic 51, 3)) (g : G K (pc + 3) L (.ref (oS (kO K) 0) :: st) μ X) : G K pc L st μ X := fun r μ' hX H locs ls hP hS hl => va_getsN C.x C.b C.sa.1 hS C.o ((C.n.2).use rfl) (fun _ h => h) dg (g r μ' hX H locs ls hP hS hl)
theorem g_bodies (C : Cx K cc "LeftLacks$Speaker" nL d) {index : Nat} (hlk : Cond.fieldLink "LeftLacks$Speaker" index "LeftLacks$Speaker" "BODIES" "[I" ∈ gtbl) (dg : decode cc pc = .ok (.getstatic index, 3)) (g : G K (pc + 3) L (.ref (oS (kO K) 1) :: st) μ X) : G K pc L st μ X := fun r μ' hX H locs ls hP hS hl => va_gets C.x C.b C.sa.2.2.1 hS C.o (C.t _ hlk) (fun _ h => h) dg (g r μ' hX H locs ls hP hS hl)
theorem g_iald0 (C : Cx K cc own nL d) {i : Int32} (dg : decode cc pc = .ok (.iaload, 1)) (g : inb i 7 = true → G K (pc + 1) L (.int (aboveF i.toNatClampNeg) :: st) μ X) : G K pc L (.int i :: .ref (oS (kO K) 0) :: st) μ (gd (inb i 7) X) := by
  intro r μ' hX H locs ls hP hS hl
  obtain ⟨h1, h2⟩ := gd_some hX
  exact va_ti C.x C.b C.sa.2.1 hS (inb_vp h1) rfl dg (g h1 r μ' h2 H locs ls hP hS hl)
theorem g_iald1 (C : Cx K cc own nL d) {i : Int32} (dg : decode cc pc = .ok (.iaload, 1)) (g : inb i 28 = true → G K (pc + 1) L (.int (bodiesF i.toNatClampNeg) :: st) μ X) : G K pc L (.int i :: .ref (oS (kO K) 1) :: st) μ (gd (inb i 28) X) := by
  intro r μ' hX H locs ls hP hS hl
  obtain ⟨h1, h2⟩ := gd_some hX
  exact va_ti C.x C.b C.sa.2.2.2.1 hS (inb_vp h1) rfl dg (g h1 r μ' h2 H locs ls hP hS hl)
/-- a switch, a case at a time -/
theorem g_tsw (C : Cx K cc own nL d) {x v : Int32} {dflt lo hi off : Int} {offs : Array Int} {len : Nat} (tgt : Nat) {X1 X2 : Res} (dg : decode cc pc = .ok (.tableswitch dflt lo hi offs, len)) (h1 : ¬ v.toInt < lo ∧ ¬ hi < v.toInt) (ho : offs[(v.toInt - lo).toNat]? = some off) (ht : (pc : Int) + off = (tgt : Int)) (g1 : G K tgt L st μ X1) (g2 : ¬ x = v → G K pc L (.int x :: st) μ X2) : G K pc L (.int x :: st) μ (if x = v then X1 else X2) := by
  intro r μ' hX H locs ls hP hS hl
  by_cases q : x = v
  · rw [if_pos q] at hX
    subst q
    exact lv_tableIn C.x C.b dg h1.1 h1.2 ho ht (g1 r μ' hX H locs ls hP hS hl)
  · rw [if_neg q] at hX
    exact g2 q r μ' hX H locs ls hP hS hl
theorem g_tswd (C : Cx K cc own nL d) {x : Int32} {dflt lo hi : Int} {offs : Array Int} {len : Nat} (tgt : Nat) (dg : decode cc pc = .ok (.tableswitch dflt lo hi offs, len)) (h : x.toInt < lo ∨ hi < x.toInt) (ht : (pc : Int) + dflt = (tgt : Int)) (g : G K tgt L st μ X) : G K pc L (.int x :: st) μ X := fun r μ' hX H locs ls hP hS hl => lv_tableOut C.x C.b dg h ht (g r μ' hX H locs ls hP hS hl)
theorem sw_out {x : Int32} {lo hi : Int} (vs : List Int32) (h : ∀ v ∈ vs, ¬ x = v) (hv : ∀ i : Int, lo ≤ i → i ≤ hi → ∃ v ∈ vs, v.toInt = i) : x.toInt < lo ∨ hi < x.toInt := by
  by_cases h1 : x.toInt < lo
  · exact Or.inl h1
  · by_cases h2 : hi < x.toInt
    · exact Or.inr h2
    · obtain ⟨v, hm, he⟩ := hv x.toInt (by omega) (by omega)
      exact absurd (Int32.toInt_inj.mp he).symm (h v hm)
theorem g_lsw (C : Cx K cc own nL d) {x v : Int32} {dflt off : Int} {ps : Array (Int × Int)} {len : Nat} (tgt : Nat) {X1 X2 : Res} (dg : decode cc pc = .ok (.lookupswitch dflt ps, len)) (hp : (ps.toList.zip (ps.toList.drop 1)).all (fun (a, next) => a.1 < next.1) = true) (ho : Op.lookupswitch.offset ps.toList dflt v.toInt = off) (ht : (pc : Int) + off = (tgt : Int)) (g1 : G K tgt L st μ X1) (g2 : ¬ x = v → G K pc L (.int x :: st) μ X2) : G K pc L (.int x :: st) μ (if x = v then X1 else X2) := by
  intro r μ' hX H locs ls hP hS hl
  by_cases q : x = v
  · rw [if_pos q] at hX
    subst q
    exact lv_lookup C.x C.b dg hp ho ht (g1 r μ' hX H locs ls hP hS hl)
  · rw [if_neg q] at hX
    exact g2 q r μ' hX H locs ls hP hS hl
theorem lsw_out {x : Int32} {d : Int} : ∀ (ps : List (Int × Int)) (vs : List Int32), vs.map (fun v => v.toInt) = ps.map (fun q => q.1) → (∀ v ∈ vs, ¬ x = v) → Op.lookupswitch.offset ps d x.toInt = d
  | [], _, _, _ => rfl
  | (a, o) :: r, vs, hv, h => by
    cases vs with
    | nil => cases hv
    | cons v vs =>
      have h1 : v.toInt = a := (List.cons.inj hv).1
      rw [lv_osw (h v List.mem_cons_self) h1]
      exact lsw_out r vs (List.cons.inj hv).2 (fun w hw => h w (List.mem_cons_of_mem _ hw))
theorem g_lswd (C : Cx K cc own nL d) {x : Int32} {dflt : Int} {ps : Array (Int × Int)} {len : Nat} (tgt : Nat) (vs : List Int32) (dg : decode cc pc = .ok (.lookupswitch dflt ps, len)) (hp : (ps.toList.zip (ps.toList.drop 1)).all (fun (a, next) => a.1 < next.1) = true) (hv : vs.map (fun v => v.toInt) = ps.toList.map (fun q => q.1)) (h : ∀ v ∈ vs, ¬ x = v) (ht : (pc : Int) + dflt = (tgt : Int)) (g : G K tgt L st μ X) : G K pc L (.int x :: st) μ X := fun r μ' hX H locs ls hP hS hl => lv_lookup C.x C.b dg hp (lsw_out ps.toList vs hv h) ht (g r μ' hX H locs ls hP hS hl)
/-- the two texts -/
theorem g_str (C : Cx K cc "LeftLacks$Reader" nL d) {index k : Nat} (hk : (index = 18 ∧ k = 2) ∨ (index = 44 ∧ k = 3)) (dg : decode cc pc = .ok (.ldc index, 2)) (g : G K (pc + 2) L (.ref (oS (kO K) k) :: st) μ X) : G K pc L st μ X := by
  intro r μ' hX H locs ls hP hS hl
  rcases hk with ⟨rfl, rfl⟩ | ⟨rfl, rfl⟩
  · exact va_ldcS C.x C.b C.o C.sb.1 dg (g r μ' hX H locs ls hP hS hl)
  · exact va_ldcS C.x C.b C.o C.sb.2 dg (g r μ' hX H locs ls hP hS hl)
theorem g_callVi (C : Cx K cc own nL d) {y : MethodName} {cb : ByteArray} {nb n db index ci b : Nat} {ty : FieldType} {As S : List Value} {Xc : Res} {kx : Int32 → Mem → Res} (hV : CvV y cb nb (some ty) n ci) (hM : Ct (kO K) y cb nb (some ty) db (.ref (kf K b) :: As) μ Xc) (hlk : Cond.methodLink own index y ∈ gtbl) (ht : tg b = ci) (hd : db + 1 ≤ d) (hn : As.length = n) (hst : S = As.reverse ++ .ref (kf K b) :: st) (hr : (st.map fun v => v.category).sum ≤ 8) (dg : decode cc pc = .ok (.invokevirtual index, 3))
    (g : ∀ r1 μ1, G K (pc + 3) L (.int r1 :: st) μ1 (kx r1 μ1)) : G K pc L S μ (cal Xc kx) := g_callV C hV hM hlk ht hd hn hst hr dg g
theorem g_callVv (C : Cx K cc own nL d) {y : MethodName} {cb : ByteArray} {nb n db index ci b : Nat} {As S : List Value} {Xc : Res} {kx : Int32 → Mem → Res} (hV : CvV y cb nb none n ci) (hM : Ct (kO K) y cb nb none db (.ref (kf K b) :: As) μ Xc) (hlk : Cond.methodLink own index y ∈ gtbl) (ht : tg b = ci) (hd : db + 1 ≤ d) (hn : As.length = n) (hst : S = As.reverse ++ .ref (kf K b) :: st) (hr : (st.map fun v => v.category).sum ≤ 8) (dg : decode cc pc = .ok (.invokevirtual index, 3))
    (g : ∀ r1 μ1, G K (pc + 3) L st μ1 (kx r1 μ1)) : G K pc L S μ (cal Xc kx) := g_callV C hV hM hlk ht hd hn hst hr dg g
theorem g_callSi (C : Cx K cc own nL d) {y : MethodName} {cb : ByteArray} {nb n db index : Nat} {ty : FieldType} {As S : List Value} {Xc : Res} {kx : Int32 → Mem → Res} (hV : Cv y cb nb (some ty) n) (hs : Cond.static y ∈ gtbl) (hM : Ct (kO K) y cb nb (some ty) db As μ Xc) (hlk : Cond.methodLink own index y ∈ gtbl) (hd : db + 1 ≤ d) (hn : As.length = n) (hst : S = As.reverse ++ st) (hr : (st.map fun v => v.category).sum ≤ 8) (dg : decode cc pc = .ok (.invokestatic index, 3))
    (g : ∀ r1 μ1, G K (pc + 3) L (.int r1 :: st) μ1 (kx r1 μ1)) : G K pc L S μ (cal Xc kx) := g_callS C hV hs hM hlk hd hn hst hr dg g
theorem g_callSv (C : Cx K cc own nL d) {y : MethodName} {cb : ByteArray} {nb n db index : Nat} {As S : List Value} {Xc : Res} {kx : Int32 → Mem → Res} (hV : Cv y cb nb none n) (hs : Cond.static y ∈ gtbl) (hM : Ct (kO K) y cb nb none db As μ Xc) (hlk : Cond.methodLink own index y ∈ gtbl) (hd : db + 1 ≤ d) (hn : As.length = n) (hst : S = As.reverse ++ st) (hr : (st.map fun v => v.category).sum ≤ 8) (dg : decode cc pc = .ok (.invokestatic index, 3))
    (g : ∀ r1 μ1, G K (pc + 3) L st μ1 (kx r1 μ1)) : G K pc L S μ (cal Xc kx) := g_callS C hV hs hM hlk hd hn hst hr dg g
theorem g_callNi (C : Cx K cc own nL d) {y : MethodName} {cb : ByteArray} {nb n db index : Nat} {ty : FieldType} {As S : List Value} {Xc : Res} {kx : Int32 → Mem → Res} (hV : Cv y cb nb (some ty) n) (hs : Cond.static y ∈ gtbl) (hM : Ct (kO K) y cb nb (some ty) db As μ Xc) (hlk : (own, index, y, "LeftLacks") ∈ ntM) (hd : db + 1 ≤ d) (hn : As.length = n) (hst : S = As.reverse ++ st) (hr : (st.map fun v => v.category).sum ≤ 8) (dg : decode cc pc = .ok (.invokestatic index, 3))
    (g : ∀ r1 μ1, G K (pc + 3) L (.int r1 :: st) μ1 (kx r1 μ1)) : G K pc L S μ (cal Xc kx) := g_callN C hV hs hM hlk hd hn hst hr dg g
/-- arrays of objects, by kind -/
theorem g_aald10 (C : Cx K cc own nL d) {l : Nat} {i : Int32} (ht : tg l = 10) (dg : decode cc pc = .ok (.aaload, 1)) (g : inb i 6 = true → G K (pc + 1) L (.ref (kf K (l + 5 + 3 * i.toNatClampNeg)) :: st) μ X) : G K pc L (.int i :: .ref (kf K l) :: st) μ (gd (inb i 6) X) := g_aald (t := 10) C ht (by decide) (by decide) rfl dg g
theorem g_aald11 (C : Cx K cc own nL d) {l : Nat} {i : Int32} (ht : tg l = 11) (dg : decode cc pc = .ok (.aaload, 1)) (g : inb i 10 = true → G K (pc + 1) L (.ref (kf K (l + 22 + 1 * i.toNatClampNeg)) :: st) μ X) : G K pc L (.int i :: .ref (kf K l) :: st) μ (gd (inb i 10) X) := g_aald (t := 11) C ht (by decide) (by decide) rfl dg g
theorem g_aald12 (C : Cx K cc own nL d) {l : Nat} {i : Int32} (ht : tg l = 12) (dg : decode cc pc = .ok (.aaload, 1)) (g : inb i 2 = true → G K (pc + 1) L (.ref (kf K (l + 31 + 3 * i.toNatClampNeg)) :: st) μ X) : G K pc L (.int i :: .ref (kf K l) :: st) μ (gd (inb i 2) X) := g_aald (t := 12) C ht (by decide) (by decide) rfl dg g
theorem g_aald13 (C : Cx K cc own nL d) {l : Nat} {i : Int32} (ht : tg l = 13) (dg : decode cc pc = .ok (.aaload, 1)) (g : inb i 4 = true → G K (pc + 1) L (.ref (kf K (l + 10 + 2 * i.toNatClampNeg)) :: st) μ X) : G K pc L (.int i :: .ref (kf K l) :: st) μ (gd (inb i 4) X) := g_aald (t := 13) C ht (by decide) (by decide) rfl dg g
theorem inb_lt {i : Int32} {n : Nat} (h : inb i n = true) : i.toNatClampNeg < n := Nat.not_le.mp fun q => inb_vp h (Or.inr q)
theorem ca_all : ∀ l, l < 155 → (tg l = 10 → ∀ i, i < 6 → tg (l + 5 + 3 * i) = 5) ∧ (tg l = 11 → ∀ i, i < 10 → tg (l + 22 + 1 * i) = 0) ∧ (tg l = 12 → ∀ i, i < 2 → tg (l + 31 + 3 * i) = 1) ∧ (tg l = 13 → ∀ i, i < 4 → tg (l + 10 + 2 * i) = 4) := by decide +kernel
theorem ca_10 {l : Nat} {i : Int32} (h : tg l = 10) (hi : inb i 6 = true) : tg (l + 5 + 3 * i.toNatClampNeg) = 5 := (ca_all l (tg_ltO h (by decide))).1 h _ (inb_lt hi)
theorem ca_11 {l : Nat} {i : Int32} (h : tg l = 11) (hi : inb i 10 = true) : tg (l + 22 + 1 * i.toNatClampNeg) = 0 := (ca_all l (tg_ltO h (by decide))).2.1 h _ (inb_lt hi)
theorem ca_12 {l : Nat} {i : Int32} (h : tg l = 12) (hi : inb i 2 = true) : tg (l + 31 + 3 * i.toNatClampNeg) = 1 := (ca_all l (tg_ltO h (by decide))).2.2.1 h _ (inb_lt hi)
theorem ca_13 {l : Nat} {i : Int32} (h : tg l = 13) (hi : inb i 4 = true) : tg (l + 10 + 2 * i.toNatClampNeg) = 4 := (ca_all l (tg_ltO h (by decide))).2.2.2 h _ (inb_lt hi)
theorem g_putZ (C : Cx K cc own nL d) {ci k l index N : Nat} {C0 : String} {T : u_T} {ty : Nat → FieldType} {x : Int32} {kx : Mem → Res} (F : Fx ci C0 T N ty) (ht : tg l = ci) (hk : k < N) (hf : fk ci k = 0) (hT : (T k).1 = C0) (hfin : (T k).2.2.2 = false) (hy : ty k = .boolean) (hlink : Cond.fieldLink own index C0 (T k).2.1 (T k).2.2.1 ∈ gtbl) (dg : decode cc pc = .ok (.putfield index, 3)) (g : ∀ μ1, G K (pc + 3) L st μ1 (kx μ1)) : G K pc L (.int x :: .ref (kf K l) :: st) μ (gd (isb x) (bnd (mset μ l k x) kx)) := by
  refine g_gd (fun hb => ?_)
  have hx : x = 0 ∨ x = 1 := of_decide_eq_true hb
  refine g_put C F ht hk ?_ hT hfin ?_ ?_ hlink dg g
  · unfold fv
    rw [hf]
    show Value.int _ = _
    unfold mset
    rw [if_pos ⟨rfl, rfl⟩]
  · rw [hy]
    rcases hx with rfl | rfl <;> rfl
  · rw [hy]
    rcases hx with rfl | rfl <;> rfl
theorem fv_int {Ω : OT} {ci l k : Nat} {μ : Mem} (hf : fk ci k = 0) : fv Ω ci l μ k = .int (μ l k) := by
  unfold fv
  rw [hf]
theorem fv_ref {Ω : OT} {ci l k n : Nat} {μ : Mem} (hf : fk ci k = n + 2) : fv Ω ci l μ k = .ref (oF Ω (l + n)) := by
  unfold fv
  rw [hf]
theorem g_geti (C : Cx K cc own nL d) {ci l index N : Nat} {C0 : String} {T : u_T} {ty : Nat → FieldType} (k : Nat) (F : Fx ci C0 T N ty) (ht : tg l = ci) (hk : k < N) (hf : fk ci k = 0) (hT : (T k).1 = C0) (hlink : Cond.fieldLink own index C0 (T k).2.1 (T k).2.2.1 ∈ gtbl) (dg : decode cc pc = .ok (.getfield index, 3)) (g : G K (pc + 3) L (.int (μ l k) :: st) μ X) : G K pc L (.ref (kf K l) :: st) μ X := g_get C F ht hk (fv_int hf) hT hlink dg g
theorem g_getr (C : Cx K cc own nL d) {ci l index N : Nat} {C0 : String} {T : u_T} {ty : Nat → FieldType} (k n : Nat) (F : Fx ci C0 T N ty) (ht : tg l = ci) (hk : k < N) (hf : fk ci k = n + 2) (hT : (T k).1 = C0) (hlink : Cond.fieldLink own index C0 (T k).2.1 (T k).2.2.1 ∈ gtbl) (dg : decode cc pc = .ok (.getfield index, 3)) (g : G K (pc + 3) L (.ref (kf K (l + n)) :: st) μ X) : G K pc L (.ref (kf K l) :: st) μ X := g_get C F ht hk (fv_ref hf) hT hlink dg g
theorem mset_self {μ : Mem} {l k : Nat} {x : Int32} : mset μ l k x l k = x := if_pos ⟨rfl, rfl⟩
theorem g_puti (C : Cx K cc own nL d) {ci l index N : Nat} {C0 : String} {T : u_T} {ty : Nat → FieldType} {x : Int32} {kx : Mem → Res} (k : Nat) (F : Fx ci C0 T N ty) (ht : tg l = ci) (hk : k < N) (hf : fk ci k = 0) (hT : (T k).1 = C0) (hfin : (T k).2.2.2 = false) (hy : ty k = .int) (hlink : Cond.fieldLink own index C0 (T k).2.1 (T k).2.2.1 ∈ gtbl) (dg : decode cc pc = .ok (.putfield index, 3)) (g : ∀ μ1, G K (pc + 3) L st μ1 (kx μ1)) : G K pc L (.int x :: .ref (kf K l) :: st) μ (bnd (mset μ l k x) kx) :=
  g_put C F ht hk (by rw [fv_int hf, mset_self]) hT hfin (by rw [hy]; rfl) (by rw [hy]; rfl) hlink dg g
theorem g_ldcw (C : Cx K cc own nL d) {index : Nat} {v : Int32} (hw : Cond.constant own index v ∈ gtbl) (dg : decode cc pc = .ok (.ldc_w index, 3)) (g : G K (pc + 3) L (.int v :: st) μ X) : G K pc L st μ X := fun r μ' hX H locs ls hP hS hl => lv_ldcw C.x C.b C.o (C.t _ hw) dg (g r μ' hX H locs ls hP hS hl)
end GCALLS
