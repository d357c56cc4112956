/-! PURE 41: the class's reader, pure -/
section
def lv (b : Int32) : Nat := if b = 124 then 1 else if b = 38 then 2 else if b = 60 ∨ b = 61 ∨ b = 62 then 3 else if b = 43 ∨ b = 45 then 4 else if b = 42 ∨ b = 47 ∨ b = 37 then 5 else 0
def bi (b : Int32) : Nat := if b = 33 then 6 else lv b
def cnt : List Int32 → Nat
  | [] => 0
  | g :: G => cnt G + (if g = 33 ∨ g = 40 then 1 else 0)
def cbr : List Int32 → Nat
  | [] => 0
  | g :: G => cbr G + (if g = 40 then 1 else 0)
/-- signs that bind so much are worked out -/
def relS (l : Nat) : List Int32 → List Int32 → List Int32 × List Int32
  | [], C => ([], C)
  | g :: G, C => if l ≤ bi g then relS l G (-g :: C) else (g :: G, C)
def hd3 : List Int32 → Bool
  | [] => false
  | g :: _ => decide (lv g = 3)
/-- codes, signs (the last first), is a part due, how many digits -/
abbrev RS : Type := List Int32 × List Int32 × Bool × Nat
def tk (u : Nat) (S : RS) (b : Int32) : Option RS :=
  if (48 : Int32) ≤ b ∧ b ≤ 57 then
    (if S.2.2.1 = true then some ((b - 48) :: S.1, S.2.1, false, 1)
     else if S.2.2.2 = 0 ∨ S.2.2.2 = 4 then none
     else (match S.1 with
       | [] => none
       | c :: C => some ((c * 10 + (b - 48)) :: C, S.2.1, false, S.2.2.2 + 1)))
  else if S.2.2.1 = true then
    (if b = 33 ∨ b = 40 then (if cnt S.2.1 = 5 then none else some (S.1, b :: S.2.1, true, 0))
     else if (0 : Int32) ≤ sidx (nI u) b then some ((-1 - sidx (nI u) b) :: S.1, S.2.1, false, 0)
     else none)
  else if b = 41 then (if cbr S.2.1 = 0 then none else some ((relS 1 S.2.1 S.1).2, (relS 1 S.2.1 S.1).1.tail, false, 0))
  else if lv b = 0 then none
  else if lv b = 3 ∧ hd3 (relS 4 S.2.1 S.1).1 = true then none
  else some ((relS (if lv b = 3 then 4 else lv b) S.2.1 S.1).2, b :: (relS (if lv b = 3 then 4 else lv b) S.2.1 S.1).1, true, 0)
def GOk (G : List Int32) : Prop := ∀ g, g ∈ G → g = 40 ∨ 1 ≤ bi g
theorem lv_le (b : Int32) : lv b ≤ 5 := by
  unfold lv
  split
  · omega
  split
  · omega
  split
  · omega
  split
  · omega
  split <;> omega
theorem bi40 : bi 40 = 0 := by decide
theorem levelOf2 (b : Int32) (m : Mem) : f_X2_levelOf b m = some (nI (lv b), m) := by
  unfold f_X2_levelOf X2_levelOf_J100 X2_levelOf_J98 X2_levelOf_J96 lv
  by_cases c1 : b = 37
  · subst c1; rfl
  by_cases c2 : b = 38
  · subst c2; rfl
  by_cases c3 : b = 42
  · subst c3; rfl
  by_cases c4 : b = 43
  · subst c4; rfl
  by_cases c5 : b = 45
  · subst c5; rfl
  by_cases c6 : b = 47
  · subst c6; rfl
  by_cases c7 : b = 60
  · subst c7; rfl
  by_cases c8 : b = 61
  · subst c8; rfl
  by_cases c9 : b = 62
  · subst c9; rfl
  by_cases c0 : b = 124
  · subst c0; rfl
  rw [if_neg c1, if_neg c2, if_neg c3, if_neg c4, if_neg c5, if_neg c6, if_neg c7, if_neg c8, if_neg c9, if_neg c0, if_neg c0, if_neg c2, if_neg (by rintro (q | q | q); exact c7 q; exact c8 q; exact c9 q), if_neg (by rintro (q | q); exact c4 q; exact c5 q), if_neg (by rintro (q | q | q); exact c3 q; exact c6 q; exact c1 q)]
  rfl
/-- the reader's cells -/
def RSm (u : Nat) (μ : Mem) (S : RS) : Prop := μ 125 1 = nI S.1.length ∧ pil (μ 126) S.1 ∧ μ 125 3 = nI S.2.1.length ∧ pil (μ 127) S.2.1 ∧ μ 125 4 = nI (cnt S.2.1) ∧ μ 125 5 = nI (cbr S.2.1) ∧ μ 125 6 = (if S.2.2.1 = true then 1 else 0) ∧ μ 125 7 = nI S.2.2.2 ∧ μ 125 8 = nI u ∧ GOk S.2.1 ∧ S.2.2.2 ≤ 4
def FrR (μ μ' : Mem) : Prop := ∀ l, l ≠ 125 → l ≠ 126 → l ≠ 127 → μ' l = μ l
theorem FrR.rf (μ : Mem) : FrR μ μ := fun _ _ _ _ => rfl
theorem FrR.tr {a b c : Mem} (h1 : FrR a b) (h2 : FrR b c) : FrR a c := fun l x y z => (h2 l x y z).trans (h1 l x y z)
theorem cnt_le (G : List Int32) : cnt G ≤ G.length ∧ cbr G ≤ G.length := by
  induction G with
  | nil => exact ⟨Nat.le_refl _, Nat.le_refl _⟩
  | cons g G ih =>
    unfold cnt cbr
    rw [List.length_cons]
    constructor
    · split <;> omega
    · split <;> omega
theorem emit2 {μ : Mem} {C : List Int32} (hC : C.length < 60) (h1 : μ 125 1 = nI C.length) (h2 : pil (μ 126) C) (v : Int32) : ∃ μ', f_X2_emit 125 v μ = some (0, μ') ∧ μ' 125 1 = nI (C.length + 1) ∧ pil (μ' 126) (v :: C) ∧ (∀ f, f ≠ 1 → μ' 125 f = μ 125 f) ∧ ∀ l, l ≠ 125 → l ≠ 126 → μ' l = μ l := by
  refine ⟨mset (mset μ 126 C.length v) 125 1 (nI (C.length + 1)), ?_, mset_self, ?_, fun f hf => ?_, fun l a b => ?_⟩
  · unfold f_X2_emit X2_emit_J32
    rw [h1, if_neg (fun q => absurd ((lit_le (x := Int32.ofNat 60) 60 rfl (by omega) (by omega)).mp q) (by omega)), inb_nI hC (by omega), gd_t, bnd_eq, bnd_eq, clamp_nI (by omega), show (125 + 1 : Nat) = 126 from rfl, mset_row (show (125 : Nat) ≠ 126 by omega), h1, nI_s]
  · rw [mset_row (by omega), mset_sR, sR_same]
    exact pil_push h2 v
  · rw [mset_ne (by omega), mset_row (by omega)]
  · rw [mset_row a, mset_row b]
theorem push2 {μ : Mem} {G : List Int32} (hG : G.length < 60) (h1 : μ 125 3 = nI G.length) (h2 : pil (μ 127) G) (v : Int32) : ∃ μ', f_X2_push 125 v μ = some (0, μ') ∧ μ' 125 3 = nI (G.length + 1) ∧ pil (μ' 127) (v :: G) ∧ (∀ f, f ≠ 3 → μ' 125 f = μ 125 f) ∧ ∀ l, l ≠ 125 → l ≠ 127 → μ' l = μ l := by
  refine ⟨mset (mset μ 127 G.length v) 125 3 (nI (G.length + 1)), ?_, mset_self, ?_, fun f hf => ?_, fun l a b => ?_⟩
  · unfold f_X2_push X2_push_J32
    rw [h1, if_neg (fun q => absurd ((lit_le (x := Int32.ofNat 60) 60 rfl (by omega) (by omega)).mp q) (by omega)), inb_nI hG (by omega), gd_t, bnd_eq, bnd_eq, clamp_nI (by omega), show (125 + 2 : Nat) = 127 from rfl, mset_row (show (125 : Nat) ≠ 127 by omega), h1, nI_s]
  · rw [mset_row (by omega), mset_sR, sR_same]
    exact pil_push h2 v
  · rw [mset_ne (by omega), mset_row (by omega)]
  · rw [mset_row a, mset_row b]
theorem relS_len (l : Nat) : ∀ (G C : List Int32), (relS l G C).1.length + (relS l G C).2.length = G.length + C.length := by
  intro G
  induction G with
  | nil => intro C; rfl
  | cons g G ih =>
    intro C
    unfold relS
    split
    · rw [ih, List.length_cons, List.length_cons]
      omega
    · rfl
theorem relS_mem {l : Nat} : ∀ (G C : List Int32) g, g ∈ (relS l G C).1 → g ∈ G := by
  intro G
  induction G with
  | nil => intro C g h; exact h
  | cons a G ih =>
    intro C g h
    unfold relS at h
    split at h
    · exact List.mem_cons_of_mem _ (ih _ g h)
    · exact h
theorem relS_cbr {l : Nat} (hl : 1 ≤ l) : ∀ (G C : List Int32), cbr (relS l G C).1 = cbr G := by
  intro G
  induction G with
  | nil => intro C; rfl
  | cons g G ih =>
    intro C
    unfold relS
    split
    · rename_i h
      rw [ih]
      have : ¬ g = 40 := fun e => by rw [e, bi40] at h; omega
      show cbr G = cbr G + (if g = 40 then 1 else 0)
      rw [if_neg this]
      rfl
    · rfl
/-- signs are worked out -/
theorem rel7 {l : Nat} (hl : 1 ≤ l) (hl6 : l ≤ 6) : ∀ (G C : List Int32) (μ : Mem) n, G.length < n → C.length + G.length ≤ 60 → μ 125 1 = nI C.length → pil (μ 126) C → μ 125 3 = nI G.length → pil (μ 127) G → μ 125 4 = nI (cnt G) → ∃ μ', X2_release_L7 n 125 (nI l) (nI G.length - 1) μ = some (0, μ') ∧ μ' 125 1 = nI (relS l G C).2.length ∧ pil (μ' 126) (relS l G C).2 ∧ μ' 125 3 = nI (relS l G C).1.length ∧ pil (μ' 127) (relS l G C).1 ∧ μ' 125 4 = nI (cnt (relS l G C).1) ∧ (∀ f, f ≠ 1 → f ≠ 3 → f ≠ 4 → μ' 125 f = μ 125 f) ∧ ∀ k, k ≠ 125 → k ≠ 126 → μ' k = μ k := by
  intro G
  induction G with
  | nil =>
    intro C μ n hn hb h1 h2 h3 h4 h5
    obtain ⟨n, rfl⟩ : ∃ m, n = m + 1 := ⟨n - 1, by omega⟩
    refine ⟨μ, ?_, h1, h2, h3, h4, h5, fun _ _ _ _ => rfl, fun _ _ _ => rfl⟩
    show X2_release_L7B _ 125 (nI l) (nI 0 - 1) μ = _
    unfold X2_release_L7B
    rw [if_pos (by decide)]
  | cons g G ih =>
    intro C μ n hn hb h1 h2 h3 h4 h5
    rw [List.length_cons] at hn hb h3
    obtain ⟨n, rfl⟩ : ∃ m, n = m + 1 := ⟨n - 1, by omega⟩
    have hbi : bi g ≤ 6 := by
      unfold bi
      have := lv_le g
      split <;> omega
    have htop : μ 127 G.length = g := pil_top h4
    have hcn := (cnt_le G).1
    have hx : nI (G.length + 1) - 1 = nI G.length := by rw [nI_pred1 (by omega)]; rfl
    have hh : X2_release_L7 (n + 1) 125 (nI l) (nI (g :: G).length - 1) μ = X2_release_J33 (X2_release_L7 n) 125 (nI l) (nI G.length) g (nI (bi g)) μ := by
      show X2_release_L7B _ 125 (nI l) (nI (G.length + 1) - 1) μ = _
      unfold X2_release_L7B bi
      rw [hx, if_neg (nI_neg (by omega)), inb_nI (k := G.length) (by omega) (by omega), gd_t, bnd_eq, clamp_nI (by omega), show (125 + 2 : Nat) = 127 from rfl, htop]
      by_cases q : g = 33
      · rw [if_pos q, if_pos q]
        rfl
      · rw [if_neg q, if_neg q, levelOf2, cal_some]
    rw [hh]
    unfold X2_release_J33 X2_release_J58
    have hr : relS l (g :: G) C = if l ≤ bi g then relS l G (-g :: C) else (g :: G, C) := rfl
    by_cases c : l ≤ bi g
    · rw [if_pos ((nI_leq (by omega) (by omega)).mpr c)]
      rw [if_pos c] at hr
      have hg40 : ¬ g = 40 := fun e => by rw [e, bi40] at c; omega
      obtain ⟨m0, hm0, e0, f0, g0⟩ : ∃ m0, (if g = 33 then bnd (mset μ 125 4 (μ 125 4 - 1)) (fun m1 => cal (f_X2_emit 125 (-g) m1) (fun r1 m2 => bnd (mset m2 125 3 (m2 125 3 - 1)) (fun m3 => bnd (nI G.length + -1) (fun y4 => X2_release_L7 n 125 (nI l) y4 m3)))) else cal (f_X2_emit 125 (-g) μ) (fun r1 m2 => bnd (mset m2 125 3 (m2 125 3 - 1)) (fun m3 => bnd (nI G.length + -1) (fun y4 => X2_release_L7 n 125 (nI l) y4 m3)))) = cal (f_X2_emit 125 (-g) m0) (fun r1 m2 => bnd (mset m2 125 3 (m2 125 3 - 1)) (fun m3 => bnd (nI G.length + -1) (fun y4 => X2_release_L7 n 125 (nI l) y4 m3))) ∧ m0 125 4 = nI (cnt G) ∧ (∀ f, f ≠ 4 → m0 125 f = μ 125 f) ∧ ∀ k, k ≠ 125 → m0 k = μ k := by
        by_cases q : g = 33
        · refine ⟨mset μ 125 4 (nI (cnt G)), ?_, mset_self, fun f hf => mset_ne (by omega), fun k hk => mset_row hk⟩
          have h5' : μ 125 4 = nI (cnt G + 1) := by
            rw [h5]
            show nI (cnt G + (if g = 33 ∨ g = 40 then 1 else 0)) = _
            rw [if_pos (Or.inl q)]
          have e5 : nI (cnt G + 1) - 1 = nI (cnt G) := by rw [nI_pred1 (by omega)]; rfl
          rw [if_pos q, bnd_eq, h5', e5]
        · refine ⟨μ, by rw [if_neg q], ?_, fun _ _ => rfl, fun _ _ => rfl⟩
          rw [h5]
          show nI (cnt G + (if g = 33 ∨ g = 40 then 1 else 0)) = _
          rw [if_neg (by rintro (w | w); exact q w; exact hg40 w)]
          rfl
      obtain ⟨m1, a1, a2, a3, a4, a5⟩ := emit2 (μ := m0) (C := C) (by omega) (by rw [f0 1 (by omega)]; exact h1) (by rw [g0 126 (by omega)]; exact h2) (-g)
      obtain ⟨m2, hm2⟩ : ∃ m2, m2 = mset m1 125 3 (nI G.length) := ⟨_, rfl⟩
      have e3 : m1 125 3 - 1 = nI G.length := by rw [a4 3 (by omega), f0 3 (by omega), h3, hx]
      have b1 : ∀ f, f ≠ 3 → m2 125 f = m1 125 f := fun f hf => by rw [hm2]; exact mset_ne (by omega)
      have b2 : ∀ k, k ≠ 125 → m2 k = m1 k := fun k hk => by rw [hm2]; exact mset_row hk
      obtain ⟨m3, d1, d2, d3, d4, d5, d6, d7, d8⟩ := ih (-g :: C) m2 n (by omega) (by rw [List.length_cons]; omega) (by rw [b1 1 (by omega), a2]; rfl) (by rw [b2 126 (by omega)]; exact a3) (by rw [hm2]; exact mset_self) (by rw [b2 127 (by omega), a5 127 (by omega) (by omega), g0 127 (by omega)]; exact pil_pop h4) (by rw [b1 4 (by omega), a4 4 (by omega)]; exact e0)
      rw [hr]
      refine ⟨m3, ?_, d2, d3, d4, d5, d6, fun f x y z => by rw [d7 f x y z, b1 f y, a4 f x, f0 f z], fun k x y => by rw [d8 k x y, b2 k x, a5 k x y, g0 k x]⟩
      rw [hm0, a1, cal_some, bnd_eq, bnd_eq, e3, ← hm2, ← Int32.sub_eq_add_neg]
      exact d1
    · rw [if_neg (fun q => c ((nI_leq (by omega) (by omega)).mp q))]
      rw [if_neg c] at hr
      rw [hr]
      exact ⟨μ, rfl, h1, h2, h3, h4, h5, fun _ _ _ _ => rfl, fun _ _ _ => rfl⟩
theorem release2 {l : Nat} (hl : 1 ≤ l) (hl6 : l ≤ 6) {x : Int32} (hx : x = nI l) {G C : List Int32} {μ : Mem} (hb : C.length + G.length ≤ 60) (h1 : μ 125 1 = nI C.length) (h2 : pil (μ 126) C) (h3 : μ 125 3 = nI G.length) (h4 : pil (μ 127) G) (h5 : μ 125 4 = nI (cnt G)) : ∃ μ', f_X2_release 125 x μ = some (0, μ') ∧ μ' 125 1 = nI (relS l G C).2.length ∧ pil (μ' 126) (relS l G C).2 ∧ μ' 125 3 = nI (relS l G C).1.length ∧ pil (μ' 127) (relS l G C).1 ∧ μ' 125 4 = nI (cnt (relS l G C).1) ∧ (∀ f, f ≠ 1 → f ≠ 3 → f ≠ 4 → μ' 125 f = μ 125 f) ∧ ∀ k, k ≠ 125 → k ≠ 126 → μ' k = μ k := by
  unfold f_X2_release
  rw [bnd_eq, h3, hx]
  exact rel7 hl hl6 G C μ FU (by rw [FU_eq]; omega) hb h1 h2 h3 h4 h5
end
