/-! BASE 1: one flat memory for all cells that the claim's objects have, and the world list that it stands for -/
abbrev Mem : Type := Nat → Nat → Int32
def mset (μ : Mem) (l i : Nat) (v : Int32) : Mem := fun a b => if a = l ∧ b = i then v else μ a b
def gd {α : Type} (b : Bool) (x : Option α) : Option α := match b with
  | true => x
  | false => none
def inb (i : Int32) (n : Nat) : Bool := decide (¬ (i < 0 ∨ n ≤ i.toNatClampNeg))
def isb (b : Int32) : Bool := decide (b = 0 ∨ b = 1)
theorem inb_vp {i : Int32} {n : Nat} (h : inb i n = true) : vp_in i n := show ¬ (i < 0 ∨ n ≤ i.toNatClampNeg) from of_decide_eq_true h
theorem gd_some {α : Type} {b : Bool} {x : Option α} {y : α} (h : gd b x = some y) : b = true ∧ x = some y := by
  cases b with
  | true => exact ⟨rfl, h⟩
  | false => cases h
/-- the words that every method has: those that stay as the machine warms -/
def gtbl : List Cond := lw_tbl.filter goodWord
theorem gm {w : Cond} (i : Nat) (h : tables_1[i]? = some w) (hg : goodWord w = true) : w ∈ gtbl := List.mem_filter.mpr ⟨List.mem_append_right _ (List.mem_of_getElem? h), hg⟩
theorem gs {y : MethodName} {n : Nat} (i : Nat) (h : lw_privs[i]? = some (y, n)) : Cond.selects y.cls y y ∈ gtbl := by
  refine List.mem_filter.mpr ⟨List.mem_append_left _ ?_, rfl⟩
  exact List.mem_map.mpr ⟨(y, n), List.mem_of_getElem? h, rfl⟩
theorem gps {ws : List Cond} (ps : List Nat) (h : ws = ps.filterMap (fun i => tables_1[i]?)) (hg : ws.all goodWord = true) : ∀ w ∈ ws, w ∈ gtbl := by
  intro w hw
  have h1 := List.all_eq_true.mp hg w hw
  rw [h] at hw
  obtain ⟨i, -, hi⟩ := List.mem_filterMap.mp hw
  exact gm i hi h1
theorem g_goodIn {w : Cond} (hw : w ∈ gtbl) : GoodIn gtbl (w :: gtbl) := by
  intro v hv
  have hm : v ∈ gtbl := by
    rcases List.mem_cons.mp hv with h | h
    · rw [h]; exact hw
    · exact h
  exact ⟨hm, good_of_word (List.mem_filter.mp hm).2⟩
-- the cells: a number each; their kinds: below 10 the class, 10 to 13 arrays of objects, 100 + n an array of n ints
def tw : List Nat := [7, 106, 10, 11, 12, 160, 124, 5, 106, 106, 5, 106, 106, 5, 106, 106, 5, 106, 106, 5, 106, 106, 5, 106, 106, 0, 0, 0, 0, 0, 0, 0, 0, 0, 0, 1, 160, 160, 1, 160, 160]
def tgl : List Nat := [8] ++ tw ++ tw ++ tw ++ [13, 2, 160, 160, 6, 130, 3, 106, 460, 107, 4, 124, 4, 124, 4, 124, 4, 124] ++ [9, 616, 616, 616, 107, 224, 228, 164, 130, 104, 104, 196, 124]
def NL : Nat := 155
def tg (l : Nat) : Nat := tgl.getD l 99
theorem tgl_len : tgl.length = 155 := by decide +kernel
theorem tg_lt {l : Nat} (h : tg l ≠ 99) : l < NL := by
  rcases Nat.lt_or_ge l NL with q | q
  · exact q
  · exact absurd (show tg l = 99 by unfold tg; rw [List.getD_eq_getElem?_getD, List.getElem?_eq_none (by rw [tgl_len]; exact q)]; rfl) h
abbrev cls10 : List vw_C := [(RX0, TX0, 4), (RX1, TX1, 3), (RX2, TX2, 9), (RX3, TX3, 7), (RX4, TX4, 3), (RX5, TX5, 6), (RX6, TX6, 6), (RX7, TX7, 15), (RX8, TX8, 9), (RX9, TX9, 20)]
/-- a field's kind: 0 a number, 1 a text, n + 2 the cell that lies n behind its object -/
def fkl : List (List Nat) := [[0, 0, 0, 0], [3, 0, 4], [3, 0, 4, 0, 0, 0, 0, 0, 1], [0, 0, 0, 0, 0, 3, 4], [0, 0, 3], [0, 0, 0, 3, 4, 0], [3, 0, 0, 0, 0, 0], [3, 0, 0, 4, 0, 5, 0, 0, 0, 0, 6, 7, 0, 8, 0], [3, 44, 85, 126, 127, 130, 132, 135, 0], [3, 4, 5, 0, 6, 0, 0, 0, 0, 7, 8, 9, 10, 0, 0, 0, 11, 12, 13, 14]]
def fk (ci k : Nat) : Nat := (fkl.getD ci []).getD k 0
def nf (ci : Nat) : Nat := (fkl.getD ci []).length
def an (t : Nat) : Nat := [6, 10, 2, 4].getD (t - 10) 0
def aa (t : Nat) : Nat := [5, 22, 31, 10].getD (t - 10) 0
def ab (t : Nat) : Nat := [3, 1, 3, 2].getD (t - 10) 0
abbrev OT : Type := Launch × (Nat → Nat) × (Nat → Nat) × (Nat → ClassId) × va_G
abbrev oF (Ω : OT) : Nat → Nat := Ω.2.1
abbrev oS (Ω : OT) : Nat → Nat := Ω.2.2.1
abbrev oC (Ω : OT) : Nat → ClassId := Ω.2.2.2.1
abbrev oD (Ω : OT) : va_G := Ω.2.2.2.2
def fv (Ω : OT) (ci l : Nat) (μ : Mem) (k : Nat) : Value := match fk ci k with
  | 0 => .int (μ l k)
  | 1 => .ref (oS Ω (if μ l k = 0 then 2 else 3))
  | n + 2 => .ref (oF Ω (l + n))
def ent (Ω : OT) (μ : Mem) (l : Nat) : va_E :=
  if tg l < 10 then .inr (tg l, (List.range (nf (tg l))).map (fv Ω (tg l) l μ))
  else if tg l < 100 then .inl (oC Ω (tg l - 9), an (tg l), .inr (.inr (.inr (.inr (fun i => some (oF Ω (l + aa (tg l) + ab (tg l) * i)))))))
  else .inl (oC Ω 0, tg l - 100, .inl (fun i => μ l i))
def wl (Ω : OT) (μ : Mem) : va_W := (List.range NL).map (fun l => (oF Ω l, ent Ω μ l))
def tys (Ω : OT) : List (ClassId × FieldType) := [(oC Ω 0, .int), (oC Ω 1, .object "LeftLacks$Shop"), (oC Ω 2, .object "LeftLacks$Customer"), (oC Ω 3, .object "LeftLacks$Formula"), (oC Ω 4, .object "LeftLacks$Sheet")]
def AA (Ω : OT) : Nat → Prop := fun q => ∃ l, l < NL ∧ oF Ω l = q
def PHI (Ω : OT) : Prop := ∀ i j, i < NL → j < NL → oF Ω i = oF Ω j → i = j
theorem wl_get (Ω : OT) (μ : Mem) {l : Nat} (h : l < NL) : (wl Ω μ)[l]? = some (oF Ω l, ent Ω μ l) := by
  unfold wl
  rw [List.getElem?_map, List.getElem?_range h]
  rfl
theorem wl_some {Ω : OT} {μ : Mem} {k : Nat} {q : Nat × va_E} (h : (wl Ω μ)[k]? = some q) : k < NL ∧ q = (oF Ω k, ent Ω μ k) := by
  have h1 := (List.getElem?_eq_some_iff.mp h).1
  have h2 : k < NL := by simpa [wl] using h1
  refine ⟨h2, ?_⟩
  rw [wl_get Ω μ h2] at h
  exact (Option.some.inj h).symm
theorem wl_D {Ω : OT} (h : PHI Ω) (μ : Mem) : va_D (AA Ω) (wl Ω μ) := by
  refine ⟨fun i j p q hi hj he => ?_, fun k q hk => ?_⟩
  · obtain ⟨a1, a2⟩ := wl_some hi
    obtain ⟨b1, b2⟩ := wl_some hj
    subst a2; subst b2
    exact h i j a1 b1 he
  · obtain ⟨a1, a2⟩ := wl_some hk
    subst a2
    exact ⟨k, a1, rfl⟩
theorem fv_congr {Ω : OT} {ci l : Nat} {μ μ' : Mem} {k : Nat} (h : μ l k = μ' l k) : fv Ω ci l μ k = fv Ω ci l μ' k := by
  unfold fv
  rw [h]
theorem ent_congr {Ω : OT} {μ μ' : Mem} {l : Nat} (h : ∀ i, μ l i = μ' l i) : ent Ω μ l = ent Ω μ' l := by
  unfold ent
  have e1 : (fun i => μ l i) = (fun i => μ' l i) := funext h
  have e2 : fv Ω (tg l) l μ = fv Ω (tg l) l μ' := funext fun k => fv_congr (h k)
  rw [e1, e2]
theorem wl_set {Ω : OT} {μ μ' : Mem} {l : Nat} {e : va_E} (hl : l < NL) (h1 : ∀ k, k ≠ l → ∀ i, μ' k i = μ k i) (h2 : ent Ω μ' l = e) : (wl Ω μ).set l (oF Ω l, e) = wl Ω μ' := by
  apply List.ext_getElem?
  intro k
  by_cases hk : k = l
  · subst hk
    rw [List.getElem?_set_self (by simpa [wl] using hl), wl_get Ω μ' hl, h2]
  · rw [List.getElem?_set_ne (fun e => hk e.symm)]
    by_cases hk2 : k < NL
    · rw [wl_get Ω μ hk2, wl_get Ω μ' hk2, ent_congr (fun i => h1 k hk i)]
    · have a1 : (wl Ω μ)[k]? = none := List.getElem?_eq_none (by simpa [wl] using Nat.not_lt.mp hk2)
      have a2 : (wl Ω μ')[k]? = none := List.getElem?_eq_none (by simpa [wl] using Nat.not_lt.mp hk2)
      rw [a1, a2]
theorem ent_obj (Ω : OT) (μ : Mem) {l ci : Nat} (h : tg l = ci) (hc : ci < 10) : ent Ω μ l = .inr (ci, (List.range (nf ci)).map (fv Ω ci l μ)) := by
  unfold ent
  rw [h, if_pos hc]
theorem ent_int (Ω : OT) (μ : Mem) {l n : Nat} (h : tg l = 100 + n) : ent Ω μ l = .inl (oC Ω 0, n, .inl (fun i => μ l i)) := by
  unfold ent
  rw [h, if_neg (by omega), if_neg (by omega), Nat.add_sub_cancel_left]
theorem ent_ref (Ω : OT) (μ : Mem) {l t : Nat} (h : tg l = t) (h1 : 10 ≤ t) (h2 : t < 100) : ent Ω μ l = .inl (oC Ω (t - 9), an t, .inr (.inr (.inr (.inr (fun i => some (oF Ω (l + aa t + ab t * i))))))) := by
  unfold ent
  rw [h, if_neg (by omega), if_pos h2]
theorem tg_ltO {l ci : Nat} (h : tg l = ci) (hc : ci < 99) : l < NL := tg_lt (by rw [h]; omega)
theorem tg_ltI {l n : Nat} (h : tg l = 100 + n) : l < NL := tg_lt (by rw [h]; omega)
theorem wl_seti {Ω : OT} {μ : Mem} {l n : Nat} (h : tg l = 100 + n) (i : Nat) (v : Int32) : (wl Ω μ).set l (oF Ω l, .inl (oC Ω 0, n, .inl (upd (fun j => μ l j) i v))) = wl Ω (mset μ l i v) := by
  refine wl_set (tg_ltI h) (fun k hk j => if_neg (fun q => hk q.1)) ?_
  rw [ent_int Ω _ h]
  congr 4
  funext j
  unfold mset upd
  by_cases hj : j = i
  · rw [if_pos ⟨rfl, hj⟩, if_pos hj]
  · rw [if_neg (fun q => hj q.2), if_neg hj]
theorem map_set_range {N k : Nat} {f f' : Nat → Value} {v : Value} (h1 : ∀ j, j ≠ k → f' j = f j) (h2 : f' k = v) : ((List.range N).map f).set k v = (List.range N).map f' := by
  apply List.ext_getElem?
  intro j
  by_cases hj : j = k
  · subst hj
    by_cases hN : j < N
    · rw [List.getElem?_set_self (by simpa using hN), List.getElem?_map, List.getElem?_range hN]
      simp [h2]
    · rw [List.getElem?_eq_none (by simpa using Nat.not_lt.mp hN), List.getElem?_eq_none (by simpa using Nat.not_lt.mp hN)]
  · rw [List.getElem?_set_ne (fun e => hj e.symm)]
    by_cases hN : j < N
    · rw [List.getElem?_map, List.getElem?_map, List.getElem?_range hN]
      simp [h1 j hj]
    · rw [List.getElem?_eq_none (by simpa using Nat.not_lt.mp hN), List.getElem?_eq_none (by simpa using Nat.not_lt.mp hN)]
theorem wl_setf {Ω : OT} {μ : Mem} {l ci k : Nat} {x : Int32} {v : Value} (h : tg l = ci) (hc : ci < 10) (hv : fv Ω ci l (mset μ l k x) k = v) : (wl Ω μ).set l (oF Ω l, .inr (ci, ((List.range (nf ci)).map (fv Ω ci l μ)).set k v)) = wl Ω (mset μ l k x) := by
  refine wl_set (tg_ltO h (by omega)) (fun k' hk j => if_neg (fun q => hk q.1)) ?_
  rw [ent_obj Ω _ h hc]
  congr 2
  exact (map_set_range (f := fv Ω ci l μ) (f' := fv Ω ci l (mset μ l k x)) (fun j hj => fv_congr (if_neg (fun q => hj q.2))) hv).symm
