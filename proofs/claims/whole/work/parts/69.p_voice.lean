/-! PURE 34: voices -/
section
def CS (μ0 μ : Mem) (κ m k : Int32) (L : List Int32) (p : Int32) : Prop := μ 128 1 = nI L.length ∧ μ 128 2 = p ∧ μ 128 3 = κ ∧ μ 128 4 = m ∧ μ 128 5 = k ∧ (∀ j, j < L.length → μ 129 j = L.getD j 0) ∧ ∀ l, l ≠ 128 → l ≠ 129 → μ l = μ0 l
def MS (m0 μ : Mem) (σ : Nat → Int32) (s : Nat) (L : List Int32) (p : Int32) : Prop := μ 142 13 = nI L.length ∧ μ 142 14 = nI s ∧ μ 142 15 = p ∧ μ 143 = σ ∧ (∀ j, j < L.length → μ 150 j = L.getD j 0) ∧ (∀ l, l ≠ 142 → l ≠ 150 → μ l = m0 l) ∧ ∀ f, f ≠ 13 → f ≠ 14 → f ≠ 15 → μ 142 f = m0 142 f
theorem gD_l {L : List Int32} {b : Int32} {j : Nat} (h : j < L.length) : (L ++ [b]).getD j 0 = L.getD j 0 := by
  rw [List.getD_eq_getElem?_getD, List.getD_eq_getElem?_getD, List.getElem?_append_left h]
theorem gD_e (L : List Int32) (b : Int32) : (L ++ [b]).getD L.length 0 = b := by
  rw [List.getD_eq_getElem?_getD, List.getElem?_concat_length]
  rfl
theorem len_1 (L : List Int32) (b : Int32) : (L ++ [b]).length = L.length + 1 := by rw [List.length_append]; rfl
theorem note6 {μ0 μ : Mem} {κ m k p : Int32} {L : List Int32} (h : CS μ0 μ κ m k L p) (hL : L.length < 30) (b : Int32) : ∃ μ', f_X6_note 128 b μ = some (0, μ') ∧ CS μ0 μ' κ m k (L ++ [b]) p := by
  obtain ⟨h1, h2, h3, h4, h5, h6, h7⟩ := h
  refine ⟨mset (mset μ 129 L.length b) 128 1 (nI (L.length + 1)), ?_, ?_, ?_, ?_, ?_, ?_, fun j hj => ?_, fun l a c => ?_⟩
  · unfold f_X6_note X6_note_J29
    rw [h1, if_neg (fun q => absurd ((lit_le (x := 30) 30 rfl (by omega) (by omega)).mp q) (by omega)), inb_nI hL (by omega), gd_t, bnd_eq, bnd_eq, clamp_nI (by omega), show (128 + 1 : Nat) = 129 from rfl, mset_row (show (128 : Nat) ≠ 129 by omega), h1, nI_s]
  · rw [mset_self, len_1]
  · rw [mset_ne (by omega), mset_row (by omega)]; exact h2
  · rw [mset_ne (by omega), mset_row (by omega)]; exact h3
  · rw [mset_ne (by omega), mset_row (by omega)]; exact h4
  · rw [mset_ne (by omega), mset_row (by omega)]; exact h5
  · rw [len_1] at hj
    rw [mset_row (by omega)]
    by_cases e : j = L.length
    · rw [e, mset_self, gD_e]
    · rw [mset_ne (by omega), gD_l (by omega)]
      exact h6 j (by omega)
  · rw [mset_row a, mset_row c]
    exact h7 l a c
theorem begins9 {m0 μ : Mem} {σ : Nat → Int32} {s : Nat} {p : Int32} {L : List Int32} (h : MS m0 μ σ s L p) (hL : L.length < 30) (b : Int32) : ∃ μ', f_X9_begins 142 b μ = some (0, μ') ∧ MS m0 μ' σ s (L ++ [b]) p := by
  obtain ⟨h1, h2, h3, h4, h5, h6, h7⟩ := h
  refine ⟨mset (mset μ 150 L.length b) 142 13 (nI (L.length + 1)), ?_, ?_, ?_, ?_, ?_, fun j hj => ?_, fun l a c => ?_, fun f a c e => ?_⟩
  · unfold f_X9_begins X9_begins_J29
    rw [h1, if_neg (fun q => absurd ((lit_le (x := 30) 30 rfl (by omega) (by omega)).mp q) (by omega)), inb_nI hL (by omega), gd_t, bnd_eq, bnd_eq, clamp_nI (by omega), show (142 + 8 : Nat) = 150 from rfl, mset_row (show (142 : Nat) ≠ 150 by omega), h1, nI_s]
  · rw [mset_self, len_1]
  · rw [mset_ne (by omega), mset_row (by omega)]; exact h2
  · rw [mset_ne (by omega), mset_row (by omega)]; exact h3
  · rw [mset_row (by omega), mset_row (by omega)]; exact h4
  · rw [len_1] at hj
    rw [mset_row (by omega)]
    by_cases e : j = L.length
    · rw [e, mset_self, gD_e]
    · rw [mset_ne (by omega), gD_l (by omega)]
      exact h5 j (by omega)
  · rw [mset_row a, mset_row c]
    exact h6 l a c
  · rw [mset_ne (by omega), mset_row (by omega)]
    exact h7 f a c e
/-- which kind's body -/
def owG : Nat → Int32 → Int32 → Int32 → Option Int32
  | 0, _, _, _ => none
  | n + 1, x1, x2, x3 => if 7 ≤ x3 then some (-1) else if (0 : Int32) ≤ x2 ∧ x2 ≤ 6 then gd (inb (x2 * 4 + x1) 28) (if bodiesF (x2 * 4 + x1).toNatClampNeg = 0 then gd (inb x2 7) (owG n x1 (aboveF x2.toNatClampNeg) (x3 + 1)) else some x2) else some (-1)
theorem owG_eq : ∀ n x1 x2 x3 (m : Mem), X6_ownerOf_L4 n x1 x2 x3 m = (owG n x1 x2 x3).map (fun r => (r, m)) := by
  intro n
  induction n with
  | zero => intro a x y m; rfl
  | succ n ih =>
    intro a x y m
    show X6_ownerOf_L4B (X6_ownerOf_L4 n) a x y m = _
    unfold X6_ownerOf_L4B X6_ownerOf_J46 owG
    rw [within_eq, cal_some]
    by_cases c1 : (7 : Int32) ≤ y
    · rw [if_pos c1, if_pos c1]; rfl
    · rw [if_neg c1, if_neg c1]
      by_cases c2 : (0 : Int32) ≤ x ∧ x ≤ 6
      · rw [b2_t c2, if_neg (by decide), if_pos c2, ← gd_map]
        by_cases c3 : bodiesF (x * 4 + a).toNatClampNeg = 0
        · rw [if_pos c3, if_pos c3, bnd_eq, bnd_eq, ih, gd_map]
        · rw [if_neg c3, if_neg c3]; rfl
      · rw [b2_f c2, if_pos rfl, if_neg c2]; rfl
def owF (f v : Nat) : Nat := [0, 0, 0, 0, 1, 0, 0, 1, 0, 2, 0, 0, 0, 0, 3, 0, 4, 0, 4, 1, 0, 5, 0, 0, 6, 6, 0, 0].getD (4 * f + v) 0
theorem ow_all : ∀ f, f ≤ 6 → ∀ v, v ≤ 3 → owG FU (nI v) (nI f) 0 = some (nI (owF f v)) := by decide +kernel
theorem ow_le : ∀ f, f ≤ 6 → ∀ v, v ≤ 3 → owF f v ≤ 6 := by decide +kernel
theorem owner6 {f v : Nat} (hf : f ≤ 6) (hv : v ≤ 3) (m : Mem) : f_X6_ownerOf (nI f) (nI v) m = some (nI (owF f v), m) := by
  unfold f_X6_ownerOf
  rw [owG_eq, ow_all f hf v hv]
  rfl
def bdK (R : Nat → Int32 → Int32 → Int32 → Int32 → Mem → Res) (y3 y6 x3 y7 : Int32) (m5 : Mem) : Res :=
  if y3 = 10 then some (x3 + m5 128 5, m5)
  else if y3 = 11 then cal (R 128 (m5 128 3) 0 x3 y7 m5) (fun r9 m10 => some (r9 * 2, m10))
  else if y3 = 12 then cal (R 128 (m5 128 3) 1 x3 y7 m5) (fun r12 m13 => some (r12 - m13 128 4, m13))
  else if y3 = 13 then cal (f_X6_part 128 x3 m5) (fun r15 m16 => some (r15, m16))
  else if y3 = 20 then cal (R 128 y6 0 x3 y7 m5) (fun r18 m19 => some (r18 - 4, m19))
  else if y3 = 21 then cal (f_X6_partAndFill R 128 y6 x3 y7 m5) (fun r21 m22 => some (r21, m22))
  else if y3 = 30 then cal (R 128 y6 1 x3 y7 m5) (fun r24 m25 => some (0 - r24, m25))
  else if y3 = 40 then gd (!((2 : Int32) == 0)) (cal (R 128 y6 2 (x3 / 2) y7 m5) (fun r27 m28 => some (r27, m28)))
  else if y3 = 50 then cal (R 128 y6 0 x3 y7 m5) (fun r30 m31 => some (r30 * 3, m31))
  else if y3 = 51 then cal (R 128 y6 2 x3 y7 m5) (fun r33 m34 => some (r33 ^^^ m34 128 5, m34))
  else if y3 = 60 then cal (R 128 y6 1 (x3 + 1) y7 m5) (fun r36 m37 => some (r36, m37))
  else if y3 = 70 then some (2, m5)
  else if y3 = 71 then cal (R 128 y6 1 x3 y7 m5) (fun r40 m41 => some (r40 + m41 128 4, m41))
  else some (0, m5)
theorem say_step {f v d n : Nat} (hf : f ≤ 6) (hv : v ≤ 3) (hd : d ≤ 20) (x : Int32) (μ : Mem) : f_X6_say (n + 1) 128 (nI f) (nI v) x (nI d) μ = cal (f_X6_note 128 (bodiesF (owF f v * 4 + v)) μ) (fun _ m5 => bdK (f_X6_say n) (bodiesF (owF f v * 4 + v)) (aboveF (owF f v)) x (nI (d + 1)) m5) := by
  have ho := ow_le f hf v hv
  have hix : nI (owF f v) * 4 + nI v = nI (owF f v * 4 + v) := by
    show nI (owF f v) * nI 4 + nI v = _
    rw [nI_mul, nI_add]
  show f_X6_say_B (f_X6_say n) 128 (nI f) (nI v) x (nI d) μ = _
  unfold f_X6_say_B
  rw [owner6 hf hv, cal_some, if_neg (nI_neg (by omega)), if_pos (show nI d ≤ (20 : Int32) from (nI_leI (b := 20) (by omega) (by omega)).mpr hd), hix, inb_nI (k := owF f v * 4 + v) (by omega) (by omega), gd_t, inb_nI (k := owF f v) (by omega) (by omega), bnd_eq, clamp_nI (k := owF f v * 4 + v) (by omega), clamp_nI (k := owF f v) (by omega)]
  simp only [gd_t, bnd_eq, nI_s]
  rfl
theorem sayN {μ0 μ : Mem} {κ m k : Int32} {L : List Int32} (h : CS μ0 μ κ m k L 0) (hL : L.length < 30) {f v d n : Nat} (hf : f ≤ 6) (hv : v ≤ 3) (hd : d ≤ 20) (x : Int32) {b a : Int32} (hb : bodiesF (owF f v * 4 + v) = b) (ha : aboveF (owF f v) = a) : ∃ μ1, f_X6_say (n + 1) 128 (nI f) (nI v) x (nI d) μ = bdK (f_X6_say n) b a x (nI (d + 1)) μ1 ∧ CS μ0 μ1 κ m k (L ++ [b]) 0 := by
  obtain ⟨μ1, e1, c1⟩ := note6 h hL b
  refine ⟨μ1, ?_, c1⟩
  rw [say_step hf hv hd, hb, ha, e1, cal_some]
def SayC (κ m k : Int32) (R f v : Nat) (x r : Int32) (T : List Int32) : Prop := ∀ (μ0 μ : Mem) (L : List Int32) (d n : Nat), R < n → d + R ≤ 20 → L.length + T.length ≤ 30 → CS μ0 μ κ m k L 0 → ∃ μ', f_X6_say n 128 (nI f) (nI v) x (nI d) μ = some (r, μ') ∧ CS μ0 μ' κ m k (L ++ T) 0
theorem SayC.up {κ m k : Int32} {R R' f v : Nat} {x r : Int32} {T : List Int32} (h : SayC κ m k R f v x r T) (hR : R ≤ R') : SayC κ m k R' f v x r T := fun μ0 μ L d n h1 h2 h3 h4 => h μ0 μ L d n (by omega) (by omega) h3 h4
def sV (k : Int32) (f : Nat) (x : Int32) : Int32 := if f = 1 then x + k - 4 else if f = 4 then (x + k - 4) * 3 else if f = 6 then 2 else x + k
def sT (f : Nat) : List Int32 := if f = 1 then [20, 10] else if f = 4 then [50, 20, 10] else if f = 6 then [70] else [10]
def fV (k m : Int32) (q f : Nat) (x : Int32) : Int32 := if f = 2 then 0 - sV k q x * 2 else if f = 5 then 0 - sV k q (x + 1) * 2 else if f = 6 then sV k q x * 2 + m else sV k q x * 2
def fT (q f : Nat) : List Int32 := if f = 2 then 30 :: 11 :: sT q else if f = 5 then 60 :: 30 :: 11 :: sT q else if f = 6 then 71 :: 11 :: sT q else 11 :: sT q
def oV (k m : Int32) (q f : Nat) (x : Int32) : Int32 := if f = 3 then fV k m q q (x / 2) - m else if f = 4 then (fV k m q q x - m) ^^^ k else fV k m q q x - m
def oT (q f : Nat) : List Int32 := if f = 3 then 40 :: 12 :: fT q q else if f = 4 then 51 :: 12 :: fT q q else 12 :: fT q q
def pZ (m k : Int32) : Int32 := if m - k = 0 then 1 else 0
def pV (k m : Int32) (q f : Nat) (x : Int32) : Int32 := if m - k = 0 then 0 else if f = 1 ∨ f = 4 then x / (m - k) + fV k m q q 1 else x / (m - k)
def pT (k m : Int32) (q f : Nat) : List Int32 := if f = 1 ∨ f = 4 then (if m - k = 0 then [21, 13] else 21 :: 13 :: fT q q) else [13]
theorem sT_len : ∀ f, f ≤ 6 → (sT f).length ≤ 3 := by decide
theorem fT_len : ∀ q, q ≤ 6 → ∀ f, f ≤ 6 → (fT q f).length ≤ 6 := by decide
section SAY
variable {κ m k : Int32}
theorem c_s0 {f : Nat} (hf : f ≤ 6) (hb : bodiesF (owF f 0 * 4 + 0) = 10) (x : Int32) : SayC κ m k 0 f 0 x (x + k) [10] := by
  intro μ0 μ L d n h1 h2 h3 h4
  simp only [List.length_cons, List.length_nil] at h3
  obtain ⟨n, rfl⟩ : ∃ q, n = q + 1 := ⟨n - 1, by omega⟩
  obtain ⟨μ1, e1, c1⟩ := sayN (n := n) h4 (by omega) hf (v := 0) (by omega) (by omega : d ≤ 20) x hb rfl
  refine ⟨μ1, ?_, c1⟩
  rw [e1]
  show some (x + μ1 128 5, μ1) = _
  rw [c1.2.2.2.2.1]
theorem c_s1 (x : Int32) : SayC κ m k 1 1 0 x (x + k - 4) [20, 10] := by
  intro μ0 μ L d n h1 h2 h3 h4
  simp only [List.length_cons, List.length_nil] at h3
  obtain ⟨n, rfl⟩ : ∃ q, n = q + 1 := ⟨n - 1, by omega⟩
  obtain ⟨μ1, e1, c1⟩ := sayN (n := n) h4 (by omega) (f := 1) (by omega) (v := 0) (by omega) (by omega : d ≤ 20) x (b := 20) (a := 0) rfl rfl
  obtain ⟨μ2, e2, c2⟩ := c_s0 (κ := κ) (m := m) (k := k) (f := 0) (by omega) rfl x μ0 μ1 (L ++ [20]) (d + 1) n (by omega) (by omega) (by rw [len_1]; simp; omega) c1
  refine ⟨μ2, ?_, ?_⟩
  · rw [e1]
    show cal (f_X6_say n 128 (nI 0) (nI 0) x (nI (d + 1)) μ1) (fun r18 m19 => some (r18 - 4, m19)) = _
    rw [e2, cal_some]
  · rw [List.append_assoc] at c2
    exact c2
theorem c_sell {f : Nat} (hf : f ≤ 6) (x : Int32) : SayC κ m k 2 f 0 x (sV k f x) (sT f) := by
  rcases (show f = 0 ∨ f = 1 ∨ f = 2 ∨ f = 3 ∨ f = 4 ∨ f = 5 ∨ f = 6 by omega) with rfl | rfl | rfl | rfl | rfl | rfl | rfl
  · exact (c_s0 hf rfl x).up (by omega)
  · exact (c_s1 x).up (by omega)
  · exact (c_s0 hf rfl x).up (by omega)
  · exact (c_s0 hf rfl x).up (by omega)
  · show SayC κ m k 2 4 0 x ((x + k - 4) * 3) [50, 20, 10]
    intro μ0 μ L d n h1 h2 h3 h4
    simp only [List.length_cons, List.length_nil] at h3
    obtain ⟨n, rfl⟩ : ∃ q, n = q + 1 := ⟨n - 1, by omega⟩
    obtain ⟨μ1, e1, c1⟩ := sayN (n := n) h4 (by omega) (f := 4) (by omega) (v := 0) (by omega) (by omega : d ≤ 20) x (b := 50) (a := 1) rfl rfl
    obtain ⟨μ2, e2, c2⟩ := c_s1 (κ := κ) (m := m) (k := k) x μ0 μ1 (L ++ [50]) (d + 1) n (by omega) (by omega) (by rw [len_1]; simp; omega) c1
    refine ⟨μ2, ?_, ?_⟩
    · rw [e1]
      show cal (f_X6_say n 128 (nI 1) (nI 0) x (nI (d + 1)) μ1) (fun r30 m31 => some (r30 * 3, m31)) = _
      rw [e2, cal_some]
    · rw [List.append_assoc] at c2
      exact c2
  · exact (c_s0 hf rfl x).up (by omega)
  · show SayC κ m k 2 6 0 x 2 [70]
    intro μ0 μ L d n h1 h2 h3 h4
    simp only [List.length_cons, List.length_nil] at h3
    obtain ⟨n, rfl⟩ : ∃ q, n = q + 1 := ⟨n - 1, by omega⟩
    obtain ⟨μ1, e1, c1⟩ := sayN (n := n) h4 (by omega) (f := 6) (by omega) (v := 0) (by omega) (by omega : d ≤ 20) x (b := 70) (a := 0) rfl rfl
    refine ⟨μ1, ?_, c1⟩
    rw [e1]
    rfl
theorem c_f0 {q f : Nat} (hq : q ≤ 6) (hf : f ≤ 6) (hb : bodiesF (owF f 1 * 4 + 1) = 11) (x : Int32) : SayC (nI q) m k 3 f 1 x (sV k q x * 2) (11 :: sT q) := by
  intro μ0 μ L d n h1 h2 h3 h4
  have hs := sT_len q hq
  rw [List.length_cons] at h3
  obtain ⟨n, rfl⟩ : ∃ q, n = q + 1 := ⟨n - 1, by omega⟩
  obtain ⟨μ1, e1, c1⟩ := sayN (n := n) h4 (by omega) hf (v := 1) (by omega) (by omega : d ≤ 20) x hb rfl
  obtain ⟨μ2, e2, c2⟩ := c_sell (κ := nI q) (m := m) (k := k) hq x μ0 μ1 (L ++ [11]) (d + 1) n (by omega) (by omega) (by rw [len_1]; omega) c1
  refine ⟨μ2, ?_, ?_⟩
  · rw [e1]
    show cal (f_X6_say n 128 (μ1 128 3) (nI 0) x (nI (d + 1)) μ1) (fun r9 m10 => some (r9 * 2, m10)) = _
    rw [c1.2.2.1, e2, cal_some]
  · rw [List.append_assoc] at c2
    exact c2
theorem c_f2 {q : Nat} (hq : q ≤ 6) (x : Int32) : SayC (nI q) m k 4 2 1 x (0 - sV k q x * 2) (30 :: 11 :: sT q) := by
  intro μ0 μ L d n h1 h2 h3 h4
  have hs := sT_len q hq
  rw [List.length_cons, List.length_cons] at h3
  obtain ⟨n, rfl⟩ : ∃ q, n = q + 1 := ⟨n - 1, by omega⟩
  obtain ⟨μ1, e1, c1⟩ := sayN (n := n) h4 (by omega) (f := 2) (by omega) (v := 1) (by omega) (by omega : d ≤ 20) x (b := 30) (a := 0) rfl rfl
  obtain ⟨μ2, e2, c2⟩ := c_f0 (m := m) (k := k) hq (f := 0) (by omega) rfl x μ0 μ1 (L ++ [30]) (d + 1) n (by omega) (by omega) (by rw [len_1, List.length_cons]; omega) c1
  refine ⟨μ2, ?_, ?_⟩
  · rw [e1]
    show cal (f_X6_say n 128 (nI 0) (nI 1) x (nI (d + 1)) μ1) (fun r24 m25 => some (0 - r24, m25)) = _
    rw [e2, cal_some]
  · rw [List.append_assoc] at c2
    exact c2
theorem c_fill {q f : Nat} (hq : q ≤ 6) (hf : f ≤ 6) (x : Int32) : SayC (nI q) m k 5 f 1 x (fV k m q f x) (fT q f) := by
  have hs := sT_len q hq
  rcases (show f = 0 ∨ f = 1 ∨ f = 2 ∨ f = 3 ∨ f = 4 ∨ f = 5 ∨ f = 6 by omega) with rfl | rfl | rfl | rfl | rfl | rfl | rfl
  · exact (c_f0 hq hf rfl x).up (by omega)
  · exact (c_f0 hq hf rfl x).up (by omega)
  · exact (c_f2 hq x).up (by omega)
  · exact (c_f0 hq hf rfl x).up (by omega)
  · exact (c_f0 hq hf rfl x).up (by omega)
  · show SayC (nI q) m k 5 5 1 x (0 - sV k q (x + 1) * 2) (60 :: 30 :: 11 :: sT q)
    intro μ0 μ L d n h1 h2 h3 h4
    rw [List.length_cons, List.length_cons, List.length_cons] at h3
    obtain ⟨n, rfl⟩ : ∃ q, n = q + 1 := ⟨n - 1, by omega⟩
    obtain ⟨μ1, e1, c1⟩ := sayN (n := n) h4 (by omega) (f := 5) (by omega) (v := 1) (by omega) (by omega : d ≤ 20) x (b := 60) (a := 2) rfl rfl
    obtain ⟨μ2, e2, c2⟩ := c_f2 (m := m) (k := k) hq (x + 1) μ0 μ1 (L ++ [60]) (d + 1) n (by omega) (by omega) (by rw [len_1, List.length_cons, List.length_cons]; omega) c1
    refine ⟨μ2, ?_, ?_⟩
    · rw [e1]
      show cal (f_X6_say n 128 (nI 2) (nI 1) (x + 1) (nI (d + 1)) μ1) (fun r36 m37 => some (r36, m37)) = _
      rw [e2, cal_some]
    · rw [List.append_assoc] at c2
      exact c2
  · show SayC (nI q) m k 5 6 1 x (sV k q x * 2 + m) (71 :: 11 :: sT q)
    intro μ0 μ L d n h1 h2 h3 h4
    rw [List.length_cons, List.length_cons] at h3
    obtain ⟨n, rfl⟩ : ∃ q, n = q + 1 := ⟨n - 1, by omega⟩
    obtain ⟨μ1, e1, c1⟩ := sayN (n := n) h4 (by omega) (f := 6) (by omega) (v := 1) (by omega) (by omega : d ≤ 20) x (b := 71) (a := 0) rfl rfl
    obtain ⟨μ2, e2, c2⟩ := c_f0 (m := m) (k := k) hq (f := 0) (by omega) rfl x μ0 μ1 (L ++ [71]) (d + 1) n (by omega) (by omega) (by rw [len_1, List.length_cons]; omega) c1
    refine ⟨μ2, ?_, ?_⟩
    · rw [e1]
      show cal (f_X6_say n 128 (nI 0) (nI 1) x (nI (d + 1)) μ1) (fun r40 m41 => some (r40 + m41 128 4, m41)) = _
      rw [e2, cal_some, c2.2.2.2.1]
    · rw [List.append_assoc] at c2
      exact c2
theorem c_o0 {q f : Nat} (hq : q ≤ 6) (hf : f ≤ 6) (hb : bodiesF (owF f 2 * 4 + 2) = 12) (x : Int32) : SayC (nI q) m k 6 f 2 x (fV k m q q x - m) (12 :: fT q q) := by
  intro μ0 μ L d n h1 h2 h3 h4
  have hs := fT_len q hq q hq
  rw [List.length_cons] at h3
  obtain ⟨n, rfl⟩ : ∃ q, n = q + 1 := ⟨n - 1, by omega⟩
  obtain ⟨μ1, e1, c1⟩ := sayN (n := n) h4 (by omega) hf (v := 2) (by omega) (by omega : d ≤ 20) x hb rfl
  obtain ⟨μ2, e2, c2⟩ := c_fill (m := m) (k := k) hq hq x μ0 μ1 (L ++ [12]) (d + 1) n (by omega) (by omega) (by rw [len_1]; omega) c1
  refine ⟨μ2, ?_, ?_⟩
  · rw [e1]
    show cal (f_X6_say n 128 (μ1 128 3) (nI 1) x (nI (d + 1)) μ1) (fun r12 m13 => some (r12 - m13 128 4, m13)) = _
    rw [c1.2.2.1, e2, cal_some, c2.2.2.2.1]
  · rw [List.append_assoc] at c2
    exact c2
theorem c_owe {q f : Nat} (hq : q ≤ 6) (hf : f ≤ 6) (x : Int32) : SayC (nI q) m k 7 f 2 x (oV k m q f x) (oT q f) := by
  have hs := fT_len q hq q hq
  rcases (show f = 0 ∨ f = 1 ∨ f = 2 ∨ f = 3 ∨ f = 4 ∨ f = 5 ∨ f = 6 by omega) with rfl | rfl | rfl | rfl | rfl | rfl | rfl
  · exact (c_o0 hq hf rfl x).up (by omega)
  · exact (c_o0 hq hf rfl x).up (by omega)
  · exact (c_o0 hq hf rfl x).up (by omega)
  · show SayC (nI q) m k 7 3 2 x (fV k m q q (x / 2) - m) (40 :: 12 :: fT q q)
    intro μ0 μ L d n h1 h2 h3 h4
    rw [List.length_cons, List.length_cons] at h3
    obtain ⟨n, rfl⟩ : ∃ q, n = q + 1 := ⟨n - 1, by omega⟩
    obtain ⟨μ1, e1, c1⟩ := sayN (n := n) h4 (by omega) (f := 3) (by omega) (v := 2) (by omega) (by omega : d ≤ 20) x (b := 40) (a := 0) rfl rfl
    obtain ⟨μ2, e2, c2⟩ := c_o0 (m := m) (k := k) hq (f := 0) (by omega) rfl (x / 2) μ0 μ1 (L ++ [40]) (d + 1) n (by omega) (by omega) (by rw [len_1, List.length_cons]; omega) c1
    refine ⟨μ2, ?_, ?_⟩
    · rw [e1]
      show cal (f_X6_say n 128 (nI 0) (nI 2) (x / 2) (nI (d + 1)) μ1) (fun r27 m28 => some (r27, m28)) = _
      rw [e2, cal_some]
    · rw [List.append_assoc] at c2
      exact c2
  · show SayC (nI q) m k 7 4 2 x ((fV k m q q x - m) ^^^ k) (51 :: 12 :: fT q q)
    intro μ0 μ L d n h1 h2 h3 h4
    rw [List.length_cons, List.length_cons] at h3
    obtain ⟨n, rfl⟩ : ∃ q, n = q + 1 := ⟨n - 1, by omega⟩
    obtain ⟨μ1, e1, c1⟩ := sayN (n := n) h4 (by omega) (f := 4) (by omega) (v := 2) (by omega) (by omega : d ≤ 20) x (b := 51) (a := 1) rfl rfl
    obtain ⟨μ2, e2, c2⟩ := c_o0 (m := m) (k := k) hq (f := 1) (by omega) rfl x μ0 μ1 (L ++ [51]) (d + 1) n (by omega) (by omega) (by rw [len_1, List.length_cons]; omega) c1
    refine ⟨μ2, ?_, ?_⟩
    · rw [e1]
      show cal (f_X6_say n 128 (nI 1) (nI 2) x (nI (d + 1)) μ1) (fun r33 m34 => some (r33 ^^^ m34 128 5, m34)) = _
      rw [e2, cal_some, c2.2.2.2.2.1]
    · rw [List.append_assoc] at c2
      exact c2
  · exact (c_o0 hq hf rfl x).up (by omega)
  · exact (c_o0 hq hf rfl x).up (by omega)
theorem part6 {μ0 μ : Mem} {L : List Int32} (h : CS μ0 μ κ m k L 0) (x : Int32) : ∃ μ', f_X6_part 128 x μ = some (if m - k = 0 then 0 else x / (m - k), μ') ∧ CS μ0 μ' κ m k L (pZ m k) := by
  obtain ⟨h1, h2, h3, h4, h5, h6, h7⟩ := id h
  unfold f_X6_part pZ
  rw [bnd_eq, h4, h5]
  by_cases c : m - k = 0
  · refine ⟨mset μ 128 2 1, ?_, by rw [mset_ne (by omega)]; exact h1, by rw [mset_self, if_pos c], by rw [mset_ne (by omega)]; exact h3, by rw [mset_ne (by omega)]; exact h4, by rw [mset_ne (by omega)]; exact h5, fun j hj => by rw [mset_row (by omega)]; exact h6 j hj, fun l a b => by rw [mset_row a]; exact h7 l a b⟩
    rw [if_pos c, if_pos c]
    rfl
  · rw [if_neg c, if_neg c, if_neg c, gd_nz c]
    exact ⟨μ, rfl, h⟩
theorem c_p0 {f : Nat} (hf : f ≤ 6) (hb : bodiesF (owF f 3 * 4 + 3) = 13) (x : Int32) {μ0 μ : Mem} {L : List Int32} {d n : Nat} (h1 : 0 < n) (h2 : d ≤ 20) (h3 : L.length < 30) (h4 : CS μ0 μ κ m k L 0) : ∃ μ', f_X6_say n 128 (nI f) (nI 3) x (nI d) μ = some (if m - k = 0 then 0 else x / (m - k), μ') ∧ CS μ0 μ' κ m k (L ++ [13]) (pZ m k) := by
  obtain ⟨n, rfl⟩ : ∃ q, n = q + 1 := ⟨n - 1, by omega⟩
  obtain ⟨μ1, e1, c1⟩ := sayN (n := n) h4 h3 hf (v := 3) (by omega) h2 x hb rfl
  obtain ⟨μ2, e2, c2⟩ := part6 c1 x
  refine ⟨μ2, ?_, c2⟩
  rw [e1]
  show cal (f_X6_part 128 x μ1) (fun r15 m16 => some (r15, m16)) = _
  rw [e2, cal_some]
theorem c_p1 {q f : Nat} (hq : q ≤ 6) (hf : f ≤ 6) (hb : bodiesF (owF f 3 * 4 + 3) = 21) (ha : aboveF (owF f 3) = 0) (x : Int32) {μ0 μ : Mem} (h4 : CS μ0 μ (nI q) m k [] 0) : ∃ μ', f_X6_say RF 128 (nI f) (nI 3) x (nI 0) μ = some (if m - k = 0 then 0 else x / (m - k) + fV k m q q 1, μ') ∧ CS μ0 μ' (nI q) m k (if m - k = 0 then [21, 13] else 21 :: 13 :: fT q q) (pZ m k) := by
  have hs := fT_len q hq q hq
  obtain ⟨μ1, e1, c1⟩ := sayN (n := 23) h4 (by simp) hf (v := 3) (by omega) (d := 0) (by omega) x hb ha
  obtain ⟨μ2, e2, c2⟩ := c_p0 (f := 0) (by omega) rfl x (n := 23) (d := 1) (by omega) (by omega) (by simp) c1
  have e1' : f_X6_say RF 128 (nI f) (nI 3) x (nI 0) μ = cal (f_X6_partAndFill (f_X6_say 23) 128 0 x (nI 1) μ1) (fun r21 m22 => some (r21, m22)) := e1
  have e2' : f_X6_say 23 128 0 3 x (nI 1) μ1 = some (if m - k = 0 then 0 else x / (m - k), μ2) := e2
  rw [e1']
  unfold f_X6_partAndFill X6_partAndFill_J35
  rw [e2', cal_some, c2.2.1]
  by_cases c : m - k = 0
  · refine ⟨μ2, ?_, ?_⟩
    · unfold pZ
      rw [if_pos c, if_pos c, if_neg (by decide), cal_some, if_pos c]
    · rw [if_pos c]
      exact c2
  · have hz : pZ m k = 0 := if_neg c
    rw [hz] at c2 ⊢
    obtain ⟨μ3, e3, c3⟩ := c_fill (m := m) (k := k) hq hq 1 μ0 μ2 _ 1 23 (by omega) (by omega) (by simp; omega) c2
    have e3' : f_X6_say 23 128 (nI q) 1 1 (nI 1) μ2 = some (fV k m q q 1, μ3) := e3
    refine ⟨μ3, ?_, ?_⟩
    · rw [if_pos rfl, c2.2.2.1, e3', cal_some, cal_some, if_neg c, if_neg c]
    · rw [if_neg c]
      exact c3
end SAY
end
