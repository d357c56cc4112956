/-! the two texts that are only read -/
def sixF (c : Int32) : List Int32 → Nat → Int32
  | [], _ => -1
  | b :: l, k => if b = c then nI k else sixF c l (k + 1)
/-- indexOf in the text that the code k names -/
def sidx (k c : Int32) : Int32 := sixF c (if k = 0 then [107, 108, 103, 109] else [99, 115, 100, 109]) 0
theorem fv_str2 {Ω : OT} {ci l k : Nat} {μ : Mem} (hf : fk ci k = 1) : fv Ω ci l (mset μ l k (0 : Int32)) k = .ref (oS Ω 2) := by
  unfold fv
  rw [hf]
  show Value.ref (oS Ω (if mset μ l k 0 l k = 0 then 2 else 3)) = _
  rw [mset_self, if_pos rfl]
theorem fv_str3 {Ω : OT} {ci l k : Nat} {μ : Mem} (hf : fk ci k = 1) : fv Ω ci l (mset μ l k (1 : Int32)) k = .ref (oS Ω 3) := by
  unfold fv
  rw [hf]
  show Value.ref (oS Ω (if mset μ l k 1 l k = 0 then 2 else 3)) = _
  rw [mset_self, if_neg (by decide)]
theorem g_indexOf {K : KT} {cc : ByteArray} {own : String} {nL d pc : Nat} {L : List (Nat × Value)} {st : List Value} {μ : Mem} {X : Res} (C : Cx K cc own nL d) {index : Nat} {k ch : Int32} (hlk : Cond.methodLink own index yJ0_indexOf_0f7a4 ∈ gtbl) (hd : 10 ≤ d) (hr : (st.map fun v => v.category).sum ≤ 8) (dg : decode cc pc = .ok (.invokevirtual index, 3)) (g : G K (pc + 3) L (.int (sidx k ch) :: st) μ X) : G K pc L (.int ch :: .ref (oS (kO K) (if k = 0 then 2 else 3)) :: st) μ X := by
  sorry
