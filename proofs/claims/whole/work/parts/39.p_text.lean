/-! PURE 5: what a text gives -/
def jn (v x y : Int32) : Int32 := if v = 37 then (if y = 0 then 0 else irm x y) else if v = 38 then b2 (¬ x = 0 ∧ ¬ y = 0) else if v = 42 then x * y else if v = 43 then x + y else if v = 45 then x - y else if v = 47 then (if y = 0 then 0 else x / y) else if v = 60 then b2 (x < y) else if v = 61 then b2 (x = y) else if v = 62 then b2 (y < x) else b2 (¬ x = 0 ∨ ¬ y = 0)
def isSg (v : Int32) : Prop := v = 124 ∨ v = 38 ∨ v = 60 ∨ v = 61 ∨ v = 62 ∨ v = 43 ∨ v = 45 ∨ v = 42 ∨ v = 47 ∨ v = 37
theorem div_m1 (x : Int32) : x / (-1) = -x := by
  apply Int32.toInt_inj.mp
  rw [Int32.toInt_div, show (-1 : Int32).toInt = -1 from by decide, Int.tdiv_neg, Int.tdiv_one, Int32.toInt_neg]
theorem irm_m1 (x : Int32) : irm x (-1) = 0 := by
  unfold irm
  rw [div_m1, Int32.neg_mul, Int32.mul_neg, Int32.mul_one, Int32.neg_neg, Int32.sub_self]
theorem gd_nz {y : Int32} (h : ¬ y = 0) (X : Res) : gd (!(y == 0)) X = X := by
  have : (!(y == 0)) = true := by simp [h]
  rw [this, gd_t]
theorem worked1 {v : Int32} (hv : isSg v) (x y : Int32) (m : Mem) : f_X1_worked v x y m = some (jn v x y, m) := by
  unfold f_X1_worked X1_worked_J188 X1_worked_J119 X1_worked_J118 X1_worked_J176 X1_worked_J130 X1_worked_J141 X1_worked_J152 X1_worked_J105 X1_worked_J100 X1_worked_J119 X1_worked_J105
  rcases hv with rfl | rfl | rfl | rfl | rfl | rfl | rfl | rfl | rfl | rfl
  · show (if x = 0 then (if y = 0 then some (0, m) else some (1, m)) else some (1, m)) = some (b2 (¬ x = 0 ∨ ¬ y = 0), m)
    by_cases a : x = 0 <;> by_cases b : y = 0 <;> simp [a, b, b2]
  · show (if x = 0 then some (0, m) else (if y = 0 then some (0, m) else some (1, m))) = some (b2 (¬ x = 0 ∧ ¬ y = 0), m)
    by_cases a : x = 0 <;> by_cases b : y = 0 <;> simp [a, b, b2]
  · show (if y ≤ x then some (0, m) else some (1, m)) = some (b2 (x < y), m)
    by_cases a : y ≤ x
    · rw [if_pos a, b2_f (Int32.not_lt.mpr a)]
    · rw [if_neg a, b2_t (Int32.not_le.mp a)]
  · show (if x = y then some (1, m) else some (0, m)) = some (b2 (x = y), m)
    by_cases a : x = y
    · rw [if_pos a, b2_t a]
    · rw [if_neg a, b2_f a]
  · show (if x ≤ y then some (0, m) else some (1, m)) = some (b2 (y < x), m)
    by_cases a : x ≤ y
    · rw [if_pos a, b2_f (Int32.not_lt.mpr a)]
    · rw [if_neg a, b2_t (Int32.not_le.mp a)]
  · rfl
  · rfl
  · rfl
  · show (if y = 0 then some (0, m) else gd (!(y == 0)) (some (x / y, m))) = some ((if y = 0 then 0 else x / y), m)
    by_cases a : y = 0
    · rw [if_pos a, if_pos a]
    · rw [if_neg a, if_neg a, gd_nz a]
  · show (if y = 0 then some (0, m) else gd (!(y == 0)) (some (irm x y, m))) = some ((if y = 0 then 0 else irm x y), m)
    by_cases a : y = 0
    · rw [if_pos a, if_pos a]
    · rw [if_neg a, if_neg a, gd_nz a]
theorem joined9 {v : Int32} (hv : isSg v) (x y : Int32) (m : Mem) : f_X9_joined v x y m = some (jn v x y, m) := by
  unfold f_X9_joined
  rcases hv with rfl | rfl | rfl | rfl | rfl | rfl | rfl | rfl | rfl | rfl
  · show (if x = 0 then (if y = 0 then some (0, m) else some (1, m)) else some (1, m)) = some (b2 (¬ x = 0 ∨ ¬ y = 0), m)
    by_cases a : x = 0 <;> by_cases b : y = 0 <;> simp [a, b, b2]
  · show (if x = 0 then some (0, m) else (if y = 0 then some (0, m) else some (1, m))) = some (b2 (¬ x = 0 ∧ ¬ y = 0), m)
    by_cases a : x = 0 <;> by_cases b : y = 0 <;> simp [a, b, b2]
  · show (if y ≤ x then some (0, m) else some (1, m)) = some (b2 (x < y), m)
    by_cases a : y ≤ x
    · rw [if_pos a, b2_f (Int32.not_lt.mpr a)]
    · rw [if_neg a, b2_t (Int32.not_le.mp a)]
  · show (if x = y then some (1, m) else some (0, m)) = some (b2 (x = y), m)
    by_cases a : x = y
    · rw [if_pos a, b2_t a]
    · rw [if_neg a, b2_f a]
  · show (if x ≤ y then some (0, m) else some (1, m)) = some (b2 (y < x), m)
    by_cases a : x ≤ y
    · rw [if_pos a, b2_f (Int32.not_lt.mpr a)]
    · rw [if_neg a, b2_t (Int32.not_le.mp a)]
  · rfl
  · rfl
  · rfl
  · show (if y = 0 then some (0, m) else if y = -1 then some (-x, m) else gd (!(y == 0)) (some (x / y, m))) = some ((if y = 0 then 0 else x / y), m)
    by_cases a : y = 0
    · rw [if_pos a, if_pos a]
    · rw [if_neg a, if_neg a]
      by_cases b : y = -1
      · rw [if_pos b, b, div_m1]
      · rw [if_neg b, gd_nz a]
  · show (if y = 0 then some (0, m) else if y = -1 then some (0, m) else gd (!(y == 0)) (some (irm x y, m))) = some ((if y = 0 then 0 else irm x y), m)
    by_cases a : y = 0
    · rw [if_pos a, if_pos a]
    · rw [if_neg a, if_neg a]
      by_cases b : y = -1
      · rw [if_pos b, b, irm_m1]
      · rw [if_neg b, gd_nz a]
/-- the names by their numbers -/
def nmI (a b c d i : Int32) : Int32 := if i = 0 then a else if i = 1 then b else if i = 2 then c else d
def stV (u a b c d what v : Int32) (st : List Int32) : List Int32 :=
  if what = 0 then v :: st
  else if what = 1 then nmI a b c d (sidx u v) :: st
  else if what = 2 then (match st with
    | x :: r => (if x = 0 then 1 else 0) :: r
    | [] => [])
  else (match st with
    | y :: x :: r => jn v x y :: r
    | _ => [])
def runT (u a b c d : Int32) (t : Nat → Int32) : Nat → List Int32
  | 0 => []
  | i + 1 => stV u a b c d (t (1 + 2 * i)) (t (2 + 2 * i)) (runT u a b c d t i)
def valT (u a b c d : Int32) (t : Nat → Int32) : Int32 := (runT u a b c d t (t 0).toNatClampNeg).headD 0
theorem runT_len {u : Nat} {t : Nat → Int32} (h : TextOk u t) (a b c d : Int32) : ∀ i, i ≤ (t 0).toNatClampNeg → ((runT (nI u) a b c d t i).length : Int) = hgt t i := by
  intro i
  induction i with
  | zero => intro _; rfl
  | succ i ih =>
    intro hi
    have ih := ih (by omega)
    obtain ⟨hs, h1, h2, h3⟩ := h.2.1 i (by omega)
    show ((stV (nI u) a b c d (t (1 + 2 * i)) (t (2 + 2 * i)) (runT (nI u) a b c d t i)).length : Int) = hgt t i + _
    generalize runT (nI u) a b c d t i = st at ih
    unfold stV
    rcases hs with ⟨e, -⟩ | ⟨e, -⟩ | ⟨e, -⟩ | ⟨e, -⟩
    · rw [e, if_pos rfl, if_pos (Or.inl rfl)]
      simp; omega
    · rw [e, if_neg (by decide), if_pos rfl, if_pos (Or.inr rfl)]
      simp; omega
    · rw [e, if_neg (by decide), if_neg (by decide), if_pos rfl, if_neg (by decide), if_pos rfl]
      have := h2 e
      cases st with
      | nil => simp at ih; omega
      | cons x r => simp at ih ⊢; omega
    · rw [e, if_neg (by decide), if_neg (by decide), if_neg (by decide), if_neg (by decide), if_neg (by decide)]
      have := h3 e
      cases st with
      | nil => simp at ih; omega
      | cons y r =>
        cases r with
        | nil => simp at ih; omega
        | cons x r => simp at ih ⊢; omega
theorem hgt_le (t : Nat → Int32) : ∀ i, hgt t i ≤ i := by
  intro i
  induction i with
  | zero => exact Int.le_refl _
  | succ i ih =>
    unfold hgt
    split
    · omega
    · split <;> omega
/-- a pile in an array: the lowest first -/
def pil (f : Nat → Int32) (st : List Int32) : Prop := ∀ j, j < st.length → f j = st.getD (st.length - 1 - j) 0
theorem pil_push {f : Nat → Int32} {st : List Int32} (h : pil f st) (v : Int32) : pil (upd f st.length v) (v :: st) := by
  intro j hj
  by_cases e : j = st.length
  · subst e
    rw [upd_same]
    simp
  · rw [upd_ne e, h j (by simp at hj; omega)]
    have hj' : j < st.length := by simp at hj; omega
    rw [show (v :: st).length - 1 - j = (st.length - 1 - j) + 1 by simp; omega]
    simp
theorem pil_top {f : Nat → Int32} {x : Int32} {r : List Int32} (h : pil f (x :: r)) : f r.length = x := by
  have := h r.length (by simp)
  rw [this]
  simp
theorem pil_pop {f : Nat → Int32} {x : Int32} {r : List Int32} (h : pil f (x :: r)) : pil f r := by
  intro j hj
  have := h j (by simp; omega)
  rw [this, show (x :: r).length - 1 - j = (r.length - 1 - j) + 1 by simp; omega]
  simp
theorem pil_set {f : Nat → Int32} {x : Int32} {r : List Int32} (h : pil f (x :: r)) (v : Int32) : pil (upd f r.length v) (v :: r) := pil_push (pil_pop h) v
theorem encS_sg {u v : Int32} (hv : isSg v) : encS u 3 v = -v ∧ -v < -4 ∧ ¬ -v = -33 := by
  refine ⟨rfl, ?_, ?_⟩ <;> (rcases hv with rfl | rfl | rfl | rfl | rfl | rfl | rfl | rfl | rfl | rfl <;> decide)
theorem rg_cases4 {x : Int32} (h : rg x 0 3) : x = 0 ∨ x = 1 ∨ x = 2 ∨ x = 3 := by
  obtain ⟨k, hk, rfl⟩ := rg_nI (n := 3) h (by omega)
  rcases (show k = 0 ∨ k = 1 ∨ k = 2 ∨ k = 3 by omega) with rfl | rfl | rfl | rfl
  · exact Or.inl rfl
  · exact Or.inr (Or.inl rfl)
  · exact Or.inr (Or.inr (Or.inl rfl))
  · exact Or.inr (Or.inr (Or.inr rfl))
theorem named1 {i : Int32} (h : rg i 0 3) (a b c d : Int32) (m : Mem) : f_X1_named (-1 - i) a b c d m = some (nmI a b c d i, m) ∧ ¬ (-1 - i) < -4 ∧ (-1 - i) < 0 := by
  rcases rg_cases4 h with rfl | rfl | rfl | rfl
  · exact ⟨rfl, by decide, by decide⟩
  · exact ⟨rfl, by decide, by decide⟩
  · exact ⟨rfl, by decide, by decide⟩
  · exact ⟨rfl, by decide, by decide⟩
theorem nlt1 {k : Nat} (h : 1 ≤ k) (hk : k < 2 ^ 31) : ¬ nI k < 1 := by
  intro q
  have q : nI k < nI 1 := q
  rw [nI_ltI hk (by omega)] at q
  omega
theorem nlt2 {k : Nat} (h : 2 ≤ k) (hk : k < 2 ^ 31) : ¬ nI k < 2 := by
  intro q
  have q : nI k < nI 2 := q
  rw [nI_ltI hk (by omega)] at q
  omega
theorem stV0 (u a b c d v : Int32) (st : List Int32) : stV u a b c d 0 v st = v :: st := rfl
theorem stV1 (u a b c d v : Int32) (st : List Int32) : stV u a b c d 1 v st = nmI a b c d (sidx u v) :: st := rfl
theorem stV2 (u a b c d v x : Int32) (r : List Int32) : stV u a b c d 2 v (x :: r) = (if x = 0 then 1 else 0) :: r := rfl
theorem stV3 (u a b c d v x y : Int32) (r : List Int32) : stV u a b c d 3 v (y :: x :: r) = jn v x y :: r := rfl
theorem nge60 {k : Nat} (hk : k < 60) : ¬ (Int32.ofNat 60 ≤ nI k) := by
  intro q
  have q : nI 60 ≤ nI k := q
  rw [nI_leI (by omega) (by omega)] at q
  omega
section VSTEP
variable (k6 : Nat → Int32 → Int32 → Int32 → Int32 → Int32 → Int32 → Mem → Res) (a0 : Nat) (a b c d : Int32) {μ : Mem} {N i h : Nat}
theorem vend (hl : μ a0 1 = nI N) {x : Int32} {r : List Int32} (hr : r.length < 60) (hp : pil (μ (a0 + 2)) (x :: r)) : X1_value_L6B k6 a0 a b c d (nI (r.length + 1)) (nI N) μ = some (x, μ) := by
  unfold X1_value_L6B X1_value_J180
  rw [if_pos (by rw [hl]; exact Int32.le_refl _), if_neg (fun q => by have := (nI_le0 (k := r.length + 1) (by omega)).mp q; omega), nI_pred1 (by omega), Nat.add_sub_cancel, inb_nI hr (by omega), gd_t, clamp_nI (by omega), pil_top hp]
theorem vgo (hl : μ a0 1 = nI N) (hi : i < N) (hN : N ≤ 60) : ¬ μ a0 1 ≤ nI i ∧ inb (nI i) 60 = true ∧ (nI i).toNatClampNeg = i := by
  refine ⟨?_, inb_nI (by omega) (by omega), clamp_nI (by omega)⟩
  rw [hl]
  intro q
  have := (nI_leI (by omega) (by omega)).mp q
  omega
theorem vstep0 (hl : μ a0 1 = nI N) (hi : i < N) (hN : N ≤ 60) (hh : h < 60) {v : Int32} (hv : rg v 0 9999) (hc : μ (a0 + 1) i = v) : X1_value_L6B k6 a0 a b c d (nI h) (nI i) μ = k6 a0 a b c d (nI (h + 1)) (nI (i + 1)) (sR μ (a0 + 2) (upd (μ (a0 + 2)) h v)) := by
  obtain ⟨g1, g2, g3⟩ := vgo a0 hl hi hN
  have c1 : ¬ v < -4 := by rw [Int32.lt_iff_toInt_lt, show (-4 : Int32).toInt = -4 from by decide]; have := hv.1; omega
  have c2 : ¬ v < 0 := by rw [Int32.lt_iff_toInt_lt, show (0 : Int32).toInt = 0 from by decide]; have := hv.1; omega
  unfold X1_value_L6B X1_value_J67 X1_value_J156
  rw [if_neg g1, g2, gd_t, g3, bnd_eq, hc, if_neg c1, if_neg (nge60 hh), if_neg c2, inb_nI hh (by omega), gd_t, clamp_nI (by omega), bnd_eq, bnd_eq, bnd_eq, mset_sR, nI_s, nI_s]
theorem vstep1 (hl : μ a0 1 = nI N) (hi : i < N) (hN : N ≤ 60) (hh : h < 60) {j : Int32} (hv : rg j 0 3) (hc : μ (a0 + 1) i = -1 - j) : X1_value_L6B k6 a0 a b c d (nI h) (nI i) μ = k6 a0 a b c d (nI (h + 1)) (nI (i + 1)) (sR μ (a0 + 2) (upd (μ (a0 + 2)) h (nmI a b c d j))) := by
  obtain ⟨g1, g2, g3⟩ := vgo a0 hl hi hN
  obtain ⟨n1, n2, n3⟩ := named1 hv a b c d μ
  unfold X1_value_L6B X1_value_J67 X1_value_J156
  rw [if_neg g1, g2, gd_t, g3, bnd_eq, hc, if_neg n2, if_neg (nge60 hh), if_pos n3, n1, cal_some, inb_nI hh (by omega), gd_t, clamp_nI (by omega), bnd_eq, bnd_eq, bnd_eq, mset_sR, nI_s, nI_s]
theorem vstep2 (hl : μ a0 1 = nI N) (hi : i < N) (hN : N ≤ 60) (hh : h < 60) (hc : μ (a0 + 1) i = -33) : X1_value_L6B k6 a0 a b c d (nI (h + 1)) (nI i) μ = k6 a0 a b c d (nI (h + 1)) (nI (i + 1)) (sR μ (a0 + 2) (upd (μ (a0 + 2)) h (if μ (a0 + 2) h = 0 then 1 else 0))) := by
  obtain ⟨g1, g2, g3⟩ := vgo a0 hl hi hN
  have hx : (nI (h + 1) - 1 : Int32) = nI h := by rw [nI_pred1 (by omega), Nat.add_sub_cancel]
  unfold X1_value_L6B X1_value_J74 X1_value_J112 X1_value_J156
  rw [if_neg g1, g2, gd_t, g3, bnd_eq, hc, if_pos (by decide), if_pos rfl, if_neg (nlt1 (k := h + 1) (by omega) (by omega)), hx, inb_nI hh (by omega), gd_t, clamp_nI (by omega), gd_t, gd_t, bnd_eq, bnd_eq, bnd_eq, nI_s, mset_sR, mset_sR]
  by_cases c0 : μ (a0 + 2) h = 0
  · rw [if_pos c0, if_pos c0]
  · rw [if_neg c0, if_neg c0, bnd_eq]
theorem vstep3 (hl : μ a0 1 = nI N) (hi : i < N) (hN : N ≤ 60) (hh : h + 1 < 60) {v : Int32} (hv : isSg v) (hc : μ (a0 + 1) i = -v) : X1_value_L6B k6 a0 a b c d (nI (h + 2)) (nI i) μ = k6 a0 a b c d (nI (h + 1)) (nI (i + 1)) (sR μ (a0 + 2) (upd (μ (a0 + 2)) h (jn v (μ (a0 + 2) h) (μ (a0 + 2) (h + 1))))) := by
  obtain ⟨g1, g2, g3⟩ := vgo a0 hl hi hN
  obtain ⟨s1, s2, s3⟩ := encS_sg (u := 0) hv
  have hy : (nI (h + 2) + -1 : Int32) = nI (h + 1) := by rw [← Int32.sub_eq_add_neg, nI_pred1 (by omega)]; rfl
  have hx : (nI (h + 1) - 1 : Int32) = nI h := by rw [nI_pred1 (by omega), Nat.add_sub_cancel]
  unfold X1_value_L6B X1_value_J74 X1_value_J116 X1_value_J156
  rw [if_neg g1, g2, gd_t, g3, bnd_eq, hc, if_pos s2, if_neg s3, if_neg (nlt2 (k := h + 2) (by omega) (by omega)), bnd_eq, hy, hx, inb_nI (k := h) (by omega) (by omega), gd_t, inb_nI (k := h + 1) (by omega) (by omega), gd_t, clamp_nI (by omega), clamp_nI (by omega), Int32.neg_neg, worked1 hv, cal_some, gd_t, bnd_eq, bnd_eq, nI_s, mset_sR]
end VSTEP
/-- the class's loop over a text -/
theorem value_loop {u : Nat} {t : Nat → Int32} (hT : TextOk u t) (a0 : Nat) (a b c d : Int32) {N : Nat} (hN : (t 0).toNatClampNeg = N) (hN60 : N ≤ 60) (hN0 : 0 < N) :
    ∀ e i (μ : Mem) n, i + e = N → e < n → μ a0 1 = nI N → (∀ j, j < N → μ (a0 + 1) j = encS (nI u) (t (1 + 2 * j)) (t (2 + 2 * j))) → pil (μ (a0 + 2)) (runT (nI u) a b c d t i) →
      ∃ f, X1_value_L6 n a0 a b c d (nI (runT (nI u) a b c d t i).length) (nI i) μ = some (valT (nI u) a b c d t, sR μ (a0 + 2) f) := by
  intro e
  induction e with
  | zero =>
    intro i μ n hi hn hl hc hp
    obtain ⟨n, rfl⟩ : ∃ m, n = m + 1 := ⟨n - 1, by omega⟩
    have hi : i = N := by omega
    subst hi
    have hlen := runT_len hT a b c d i (by omega)
    have h1 := hT.2.2 (by omega)
    unfold valT
    rw [hN] at h1 ⊢
    generalize runT (nI u) a b c d t i = st at hp hlen
    refine ⟨μ (a0 + 2), ?_⟩
    rw [sR_id]
    cases st with
    | nil => simp at hlen; omega
    | cons x r => exact vend (X1_value_L6 n) a0 a b c d hl (by simp at hlen; omega) hp
  | succ e ih =>
    intro i μ n hi hn hl hc hp
    obtain ⟨n, rfl⟩ : ∃ m, n = m + 1 := ⟨n - 1, by omega⟩
    have hlen := runT_len hT a b c d i (by omega)
    have hle := hgt_le t i
    obtain ⟨hs, h1, h2, h3⟩ := hT.2.1 i (by omega)
    have hci := hc i (by omega)
    have go : ∀ (f : Nat → Int32) (st' : List Int32) (q : Nat), runT (nI u) a b c d t (i + 1) = st' → st'.length = q → pil f st' → ∃ f', X1_value_L6 n a0 a b c d (nI q) (nI (i + 1)) (sR μ (a0 + 2) f) = some (valT (nI u) a b c d t, sR μ (a0 + 2) f') := by
      intro f st' q he hq hp'
      subst he
      subst hq
      obtain ⟨f', hf⟩ := ih (i + 1) (sR μ (a0 + 2) f) n (by omega) (by omega) (by rw [sR_ne (by omega)]; exact hl) (fun j hj => by rw [sR_ne (by omega)]; exact hc j hj) (by rw [sR_same]; exact hp')
      exact ⟨f', by rw [hf, sR_sR]⟩
    have hnext : runT (nI u) a b c d t (i + 1) = stV (nI u) a b c d (t (1 + 2 * i)) (t (2 + 2 * i)) (runT (nI u) a b c d t i) := rfl
    show ∃ f, X1_value_L6B (X1_value_L6 n) a0 a b c d (nI (runT (nI u) a b c d t i).length) (nI i) μ = _
    generalize runT (nI u) a b c d t i = st at hp hlen hnext
    rcases hs with ⟨e0, hv⟩ | ⟨e0, hv, hv2⟩ | ⟨e0, hv⟩ | ⟨e0, hv⟩
    · rw [e0] at hci hnext
      rw [vstep0 (X1_value_L6 n) a0 a b c d hl (by omega) hN60 (by omega) hv hci]
      exact go _ _ _ hnext (by rw [stV0, List.length_cons]) (by rw [stV0]; exact pil_push hp _)
    · rw [e0] at hci hnext
      rw [vstep1 (X1_value_L6 n) a0 a b c d hl (by omega) hN60 (by omega) hv hci]
      exact go _ _ _ hnext (by rw [stV1, List.length_cons]) (by rw [stV1]; exact pil_push hp _)
    · have h2 := h2 e0
      rw [e0] at hci hnext
      cases st with
      | nil => simp at hlen; omega
      | cons x r =>
        have hr : r.length < 60 := by simp at hlen; omega
        rw [List.length_cons, vstep2 (X1_value_L6 n) a0 a b c d hl (by omega) hN60 hr hci, pil_top hp]
        exact go _ _ _ hnext (by rw [stV2, List.length_cons]) (by rw [stV2]; exact pil_set hp _)
    · have h3 := h3 e0
      rw [e0] at hci hnext
      cases st with
      | nil => simp at hlen; omega
      | cons y r =>
        cases r with
        | nil => simp at hlen; omega
        | cons x r =>
          have hr : r.length + 1 < 60 := by simp at hlen; omega
          have p1 : μ (a0 + 2) (r.length + 1) = y := pil_top hp
          have p2 : μ (a0 + 2) r.length = x := pil_top (pil_pop hp)
          rw [List.length_cons, List.length_cons, vstep3 (X1_value_L6 n) a0 a b c d hl (by omega) hN60 hr hv hci, p1, p2]
          exact go _ _ _ hnext (by rw [stV3, List.length_cons]) (by rw [stV3]; exact pil_set (pil_pop hp) _)
section WSTEP
variable (k14 : Nat → Int32 → Int32 → Int32 → Mem → Res) {μ : Mem} {T N i h : Nat}
theorem wi1 (T i : Nat) : (nI T + 1 + 2 * nI i : Int32) = nI (T + 1 + 2 * i) := by
  show nI T + nI 1 + nI 2 * nI i = _
  rw [nI_mul, nI_add, nI_add]
theorem wi2 (T i : Nat) : (nI T + 2 + 2 * nI i : Int32) = nI (T + 2 + 2 * i) := by
  show nI T + nI 2 + nI 2 * nI i = _
  rw [nI_mul, nI_add, nI_add]
theorem wend (hT : T < 516) (hl : μ 143 T = nI N) : X9_worked_L14B k14 142 (nI T) (nI h) (nI N) μ = some (μ 149 0, μ) := by
  unfold X9_worked_L14B
  rw [inb_nI hT (by omega), gd_t, clamp_nI (by omega)]
  show (if μ 143 T ≤ nI N then gd (inb (0 : Int32) 64) (some (μ 149 (0 : Int32).toNatClampNeg, μ)) else _) = _
  rw [if_pos (by rw [hl]; exact Int32.le_refl _)]
  rfl
theorem whead (hT : T + 125 ≤ 516) (hl : μ 143 T = nI N) (hi : i < N) (hN : N ≤ 60) : X9_worked_L14B k14 142 (nI T) (nI h) (nI i) μ = (if μ 143 (T + 1 + 2 * i) = 0 then X9_worked_J66 k14 142 (nI T) (nI h) (nI i) (μ 143 (T + 1 + 2 * i)) (μ 143 (T + 2 + 2 * i)) μ else if μ 143 (T + 1 + 2 * i) = 1 then X9_worked_J66 k14 142 (nI T) (nI h) (nI i) (μ 143 (T + 1 + 2 * i)) (μ 143 (T + 2 + 2 * i)) μ else if μ 143 (T + 1 + 2 * i) = 2 then gd (inb (nI h - 1) 64) (if μ 149 (nI h - 1).toNatClampNeg = 0 then X9_worked_J124 k14 142 (nI T) (nI h) (nI i) 149 (nI h - 1) 1 μ else X9_worked_J124 k14 142 (nI T) (nI h) (nI i) 149 (nI h - 1) 0 μ) else gd (inb (nI h + -1 - 1) 64) (gd (inb (nI h + -1) 64) (cal (f_X9_joined (μ 143 (T + 2 + 2 * i)) (μ 149 (nI h + -1 - 1).toNatClampNeg) (μ 149 (nI h + -1).toNatClampNeg) μ) (fun r4 m5 => gd (inb (nI h + -1 - 1) 64) (bnd (mset m5 149 (nI h + -1 - 1).toNatClampNeg r4) (fun m6 => X9_worked_J158 k14 142 (nI T) (nI h + -1) (nI i) m6)))))) := by
  unfold X9_worked_L14B
  rw [show (142 + 1 : Nat) = 143 from rfl, show (142 + 7 : Nat) = 149 from rfl]
  have hc : ¬ μ 143 T ≤ nI i := by
    rw [hl]
    intro q
    have := (nI_leI (by omega) (by omega)).mp q
    omega
  rw [inb_nI (k := T) (by omega) (by omega), gd_t, clamp_nI (k := T) (by omega), if_neg hc, wi1, wi2, inb_nI (k := T + 1 + 2 * i) (by omega) (by omega), gd_t, clamp_nI (k := T + 1 + 2 * i) (by omega), bnd_eq, inb_nI (k := T + 2 + 2 * i) (by omega) (by omega), gd_t, clamp_nI (k := T + 2 + 2 * i) (by omega), bnd_eq, bnd_eq (nI h + -1)]
theorem wstep0 (hT : T + 125 ≤ 516) (hl : μ 143 T = nI N) (hi : i < N) (hN : N ≤ 60) (hh : h < 60) (hw : μ 143 (T + 1 + 2 * i) = 0) : X9_worked_L14B k14 142 (nI T) (nI h) (nI i) μ = k14 142 (nI T) (nI (h + 1)) (nI (i + 1)) (sR μ 149 (upd (μ 149) h (μ 143 (T + 2 + 2 * i)))) := by
  rw [whead k14 hT hl hi hN, if_pos hw, hw]
  unfold X9_worked_J66 X9_worked_J88 X9_worked_J158
  rw [if_pos rfl, inb_nI (by omega) (by omega), gd_t, clamp_nI (by omega), bnd_eq, bnd_eq, bnd_eq, mset_sR, nI_s, nI_s]
theorem wstep1 (hT : T + 125 ≤ 516) (hl : μ 143 T = nI N) (hi : i < N) (hN : N ≤ 60) (hh : h < 60) (hw : μ 143 (T + 1 + 2 * i) = 1) (hv : rg (μ 143 (T + 2 + 2 * i)) 99 115) : X9_worked_L14B k14 142 (nI T) (nI h) (nI i) μ = k14 142 (nI T) (nI (h + 1)) (nI (i + 1)) (sR μ 149 (upd (μ 149) h (μ 148 (μ 143 (T + 2 + 2 * i)).toNatClampNeg))) := by
  obtain ⟨c, hc, he⟩ := rg_nI (n := 115) (rg_mono hv (by omega) (Int.le_refl _)) (by omega)
  rw [whead k14 hT hl hi hN, if_neg (by rw [hw]; decide), if_pos hw, hw]
  unfold X9_worked_J66 X9_worked_J88 X9_worked_J158
  rw [if_neg (by decide), he, inb_nI (k := c) (by omega) (by omega), gd_t, inb_nI (k := h) (by omega) (by omega), gd_t, clamp_nI (k := h) (by omega), bnd_eq, bnd_eq, bnd_eq, mset_sR, nI_s, nI_s]
theorem wstep2 (hT : T + 125 ≤ 516) (hl : μ 143 T = nI N) (hi : i < N) (hN : N ≤ 60) (hh : h < 60) (hw : μ 143 (T + 1 + 2 * i) = 2) : X9_worked_L14B k14 142 (nI T) (nI (h + 1)) (nI i) μ = k14 142 (nI T) (nI (h + 1)) (nI (i + 1)) (sR μ 149 (upd (μ 149) h (if μ 149 h = 0 then 1 else 0))) := by
  have hx : (nI (h + 1) - 1 : Int32) = nI h := by rw [nI_pred1 (by omega), Nat.add_sub_cancel]
  rw [whead k14 hT hl hi hN, if_neg (by rw [hw]; decide), if_neg (by rw [hw]; decide), if_pos hw, hx, inb_nI (k := h) (by omega) (by omega), gd_t, clamp_nI (k := h) (by omega)]
  unfold X9_worked_J124 X9_worked_J158
  rw [inb_nI (k := h) (by omega) (by omega), gd_t, gd_t, clamp_nI (k := h) (by omega), bnd_eq, bnd_eq, bnd_eq, bnd_eq, mset_sR, mset_sR, nI_s]
  by_cases c0 : μ 149 h = 0
  · rw [if_pos c0, if_pos c0]
  · rw [if_neg c0, if_neg c0]
theorem wstep3 (hT : T + 125 ≤ 516) (hl : μ 143 T = nI N) (hi : i < N) (hN : N ≤ 60) (hh : h + 1 < 60) (hw : μ 143 (T + 1 + 2 * i) = 3) (hv : isSg (μ 143 (T + 2 + 2 * i))) : X9_worked_L14B k14 142 (nI T) (nI (h + 2)) (nI i) μ = k14 142 (nI T) (nI (h + 1)) (nI (i + 1)) (sR μ 149 (upd (μ 149) h (jn (μ 143 (T + 2 + 2 * i)) (μ 149 h) (μ 149 (h + 1))))) := by
  have hy : (nI (h + 2) + -1 : Int32) = nI (h + 1) := by rw [← Int32.sub_eq_add_neg, nI_pred1 (by omega)]; rfl
  have hx : (nI (h + 1) - 1 : Int32) = nI h := by rw [nI_pred1 (by omega), Nat.add_sub_cancel]
  rw [whead k14 hT hl hi hN, if_neg (by rw [hw]; decide), if_neg (by rw [hw]; decide), if_neg (by rw [hw]; decide), hy, hx, inb_nI (k := h) (by omega) (by omega), gd_t, inb_nI (k := h + 1) (by omega) (by omega), gd_t, clamp_nI (k := h) (by omega), clamp_nI (k := h + 1) (by omega), joined9 hv, cal_some, gd_t, bnd_eq, mset_sR]
  unfold X9_worked_J158
  rw [bnd_eq, nI_s]
end WSTEP
theorem worked_loop {u : Nat} (hu : u < 2) {t : Nat → Int32} (hT : TextOk u t) (a b c d : Int32) {N : Nat} (hN : (t 0).toNatClampNeg = N) (hN60 : N ≤ 60) (hN0 : 0 < N) :
    ∀ e i (μ : Mem) n, i + e = N → e < n → (∀ j, j < 125 → μ 143 (182 + 125 * u + j) = t j) → (∀ v, rg (sidx (nI u) v) 0 3 → μ 148 v.toNatClampNeg = nmI a b c d (sidx (nI u) v)) → pil (μ 149) (runT (nI u) a b c d t i) →
      ∃ f, X9_worked_L14 n 142 (nI (182 + 125 * u)) (nI (runT (nI u) a b c d t i).length) (nI i) μ = some (valT (nI u) a b c d t, sR μ 149 f) := by
  have ht0 : t 0 = nI N := by rw [← hN]; exact (rg_clamp (n := 60) hT.1 (by omega)).2
  intro e
  induction e with
  | zero =>
    intro i μ n hi hn hl hnm hp
    obtain ⟨n, rfl⟩ : ∃ m, n = m + 1 := ⟨n - 1, by omega⟩
    have hi : i = N := by omega
    subst hi
    have hlen := runT_len hT a b c d i (by omega)
    have h1 := hT.2.2 (by omega)
    unfold valT
    rw [hN] at h1 ⊢
    generalize runT (nI u) a b c d t i = st at hp hlen
    refine ⟨μ 149, ?_⟩
    rw [sR_id]
    cases st with
    | nil => simp at hlen; omega
    | cons x r =>
      have hr : r = [] := by
        cases r with
        | nil => rfl
        | cons y q => simp at hlen; omega
      subst hr
      have := pil_top hp
      show X9_worked_L14B (X9_worked_L14 n) 142 (nI (182 + 125 * u)) (nI 1) (nI i) μ = some (x, μ)
      rw [wend (X9_worked_L14 n) (T := 182 + 125 * u) (by omega) (by have := hl 0 (by omega); rw [Nat.add_zero] at this; rw [this]; exact ht0)]
      rw [← this]; rfl
  | succ e ih =>
    intro i μ n hi hn hl hnm hp
    obtain ⟨n, rfl⟩ : ∃ m, n = m + 1 := ⟨n - 1, by omega⟩
    have hlen := runT_len hT a b c d i (by omega)
    have hle := hgt_le t i
    obtain ⟨hs, h1, h2, h3⟩ := hT.2.1 i (by omega)
    have hl0 : μ 143 (182 + 125 * u) = nI N := by have := hl 0 (by omega); rw [Nat.add_zero] at this; rw [this]; exact ht0
    have hw : μ 143 (182 + 125 * u + 1 + 2 * i) = t (1 + 2 * i) := by rw [← hl (1 + 2 * i) (by omega)]; congr 1; omega
    have hv0 : μ 143 (182 + 125 * u + 2 + 2 * i) = t (2 + 2 * i) := by rw [← hl (2 + 2 * i) (by omega)]; congr 1; omega
    have go : ∀ (f : Nat → Int32) (st' : List Int32) (q : Nat), runT (nI u) a b c d t (i + 1) = st' → st'.length = q → pil f st' → ∃ f', X9_worked_L14 n 142 (nI (182 + 125 * u)) (nI q) (nI (i + 1)) (sR μ 149 f) = some (valT (nI u) a b c d t, sR μ 149 f') := by
      intro f st' q he hq hp'
      subst he
      subst hq
      obtain ⟨f', hf⟩ := ih (i + 1) (sR μ 149 f) n (by omega) (by omega) (fun j hj => by rw [sR_ne (by omega)]; exact hl j hj) (fun v hv => by rw [sR_ne (by omega)]; exact hnm v hv) (by rw [sR_same]; exact hp')
      exact ⟨f', by rw [hf, sR_sR]⟩
    have hnext : runT (nI u) a b c d t (i + 1) = stV (nI u) a b c d (t (1 + 2 * i)) (t (2 + 2 * i)) (runT (nI u) a b c d t i) := rfl
    show ∃ f, X9_worked_L14B (X9_worked_L14 n) 142 (nI (182 + 125 * u)) (nI (runT (nI u) a b c d t i).length) (nI i) μ = _
    generalize runT (nI u) a b c d t i = st at hp hlen hnext
    rcases hs with ⟨e0, hv⟩ | ⟨e0, hv, hv2⟩ | ⟨e0, hv⟩ | ⟨e0, hv⟩
    · rw [e0] at hnext
      rw [wstep0 (X9_worked_L14 n) (by omega) hl0 (by omega) hN60 (by omega) (by rw [hw]; exact e0), hv0]
      exact go _ _ _ hnext (by rw [stV0, List.length_cons]) (by rw [stV0]; exact pil_push hp _)
    · rw [e0] at hnext
      rw [wstep1 (X9_worked_L14 n) (by omega) hl0 (by omega) hN60 (by omega) (by rw [hw]; exact e0) (by rw [hv0]; exact hv2), hv0, hnm _ hv]
      exact go _ _ _ hnext (by rw [stV1, List.length_cons]) (by rw [stV1]; exact pil_push hp _)
    · have h2 := h2 e0
      rw [e0] at hnext
      cases st with
      | nil => simp at hlen; omega
      | cons x r =>
        have hr : r.length < 60 := by simp at hlen; omega
        rw [List.length_cons, wstep2 (X9_worked_L14 n) (by omega) hl0 (by omega) hN60 hr (by rw [hw]; exact e0), pil_top hp]
        exact go _ _ _ hnext (by rw [stV2, List.length_cons]) (by rw [stV2]; exact pil_set hp _)
    · have h3 := h3 e0
      rw [e0] at hnext
      cases st with
      | nil => simp at hlen; omega
      | cons y r =>
        cases r with
        | nil => simp at hlen; omega
        | cons x r =>
          have hr : r.length + 1 < 60 := by simp at hlen; omega
          have p1 : μ 149 (r.length + 1) = y := pil_top hp
          have p2 : μ 149 r.length = x := pil_top (pil_pop hp)
          rw [List.length_cons, List.length_cons, wstep3 (X9_worked_L14 n) (by omega) hl0 (by omega) hN60 hr (by rw [hw]; exact e0) (by rw [hv0]; exact hv), p1, p2, hv0]
          exact go _ _ _ hnext (by rw [stV3, List.length_cons]) (by rw [stV3]; exact pil_set (pil_pop hp) _)
