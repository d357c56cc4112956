/-! PURE 1: numbers, the state of the model as one row of numbers, what a World must hold of it -/
def b2 (p : Prop) [Decidable p] : Int32 := if p then 1 else 0
theorem b2_isb (p : Prop) [Decidable p] : isb (b2 p) = true := by unfold b2; split <;> rfl
theorem b2_t {p : Prop} [Decidable p] (h : p) : b2 p = 1 := if_pos h
theorem b2_f {p : Prop} [Decidable p] (h : ¬ p) : b2 p = 0 := if_neg h
theorem b2_z (p : Prop) [Decidable p] : (b2 p = 0) ↔ ¬ p := by
  unfold b2
  by_cases h : p
  · rw [if_pos h]; exact ⟨fun q => absurd q (by decide), fun q => absurd h q⟩
  · rw [if_neg h]; exact ⟨fun _ => h, fun _ => rfl⟩
theorem nI_mul (a b : Nat) : nI a * nI b = nI (a * b) := by
  unfold nI
  exact (Int32.ofNat_mul a b).symm
theorem nI_sub {a b : Nat} (h : b ≤ a) : nI a - nI b = nI (a - b) := by
  have : nI (a - b) + nI b = nI a := by rw [nI_add, Nat.sub_add_cancel h]
  rw [← this, Int32.add_sub_cancel]
theorem inb_nI {k n : Nat} (h : k < n) (hn : n ≤ 2000) : inb (nI k) n = true := by
  unfold inb
  exact decide_eq_true (nI_in h (by omega))
theorem clamp_nI {k : Nat} (h : k < 2 ^ 31) : (nI k).toNatClampNeg = k := nI_clamp h
/-- a number between two others, by whole numbers -/
def rg (x : Int32) (lo hi : Int) : Prop := lo ≤ x.toInt ∧ x.toInt ≤ hi
theorem rg_nI {x : Int32} {n : Nat} (h : rg x 0 n) (hn : n < 2 ^ 31) : ∃ k : Nat, k ≤ n ∧ x = nI k := by
  obtain ⟨h1, h2⟩ := h
  refine ⟨x.toInt.toNat, by omega, ?_⟩
  apply Int32.toInt_inj.mp
  rw [nI_toInt (by omega)]
  omega
theorem nI_rg {k n : Nat} (h : k ≤ n) (hn : n < 2 ^ 31) : rg (nI k) 0 n := by
  unfold rg
  rw [nI_toInt (by omega)]
  omega
theorem rg_mono {x : Int32} {a b c d : Int} (h : rg x a b) (h1 : c ≤ a) (h2 : b ≤ d) : rg x c d := ⟨Int.le_trans h1 h.1, Int.le_trans h.2 h2⟩
theorem rg_clamp {x : Int32} {n : Nat} (h : rg x 0 n) (hn : n < 2 ^ 31) : x.toNatClampNeg ≤ n ∧ x = nI x.toNatClampNeg := by
  obtain ⟨k, h1, rfl⟩ := rg_nI h hn
  rw [clamp_nI (by omega)]
  exact ⟨h1, rfl⟩
theorem nI_inj {a b : Nat} (h : nI a = nI b) (ha : a < 2 ^ 31) (hb : b < 2 ^ 31) : a = b := (nI_eq ha hb).mp h
theorem within_eq (x lo hi : Int32) (m : Mem) : f_X8_within x lo hi m = some (b2 (lo ≤ x ∧ x ≤ hi), m) := by
  unfold f_X8_within X8_within_J14 X8_within_J15
  by_cases h1 : x < lo
  · rw [if_pos h1, b2_f (fun q => absurd q.1 (Int32.not_le.mpr h1))]; rfl
  · rw [if_neg h1]
    by_cases h2 : hi < x
    · rw [if_pos h2, b2_f (fun q => absurd q.2 (Int32.not_le.mpr h2))]; rfl
    · rw [if_neg h2, b2_t ⟨Int32.not_lt.mp h1, Int32.not_lt.mp h2⟩]; rfl
theorem in_eq (x lo hi : Int32) (m : Mem) : f_X9_in x lo hi m = some (b2 (lo ≤ x ∧ x ≤ hi), m) := by
  unfold f_X9_in X9_in_J14 X9_in_J15
  by_cases h1 : x < lo
  · rw [if_pos h1, b2_f (fun q => absurd q.1 (Int32.not_le.mpr h1))]; rfl
  · rw [if_neg h1]
    by_cases h2 : hi < x
    · rw [if_pos h2, b2_f (fun q => absurd q.2 (Int32.not_le.mpr h2))]; rfl
    · rw [if_neg h2, b2_t ⟨Int32.not_lt.mp h1, Int32.not_lt.mp h2⟩]; rfl
def hld (v lo hi : Int32) : Int32 := if lo ≤ v then (if v ≤ hi then v else hi) else lo
theorem hold_eq (v lo hi : Int32) (m : Mem) : f_X8_hold v lo hi m = some (hld v lo hi, m) := by
  unfold f_X8_hold hld X8_hold_J17
  split
  · split <;> rfl
  · rfl
theorem held_eq (v lo hi : Int32) (m : Mem) : f_X9_held v lo hi m = some (hld v lo hi, m) := by
  unfold f_X9_held hld X9_held_J19
  split
  · split <;> rfl
  · rfl
theorem le_rg {x : Int32} {lo hi : Int} (a b : Int32) (ha : a.toInt = lo) (hb : b.toInt = hi) : (a ≤ x ∧ x ≤ b) ↔ rg x lo hi := by
  unfold rg
  rw [Int32.le_iff_toInt_le, Int32.le_iff_toInt_le, ha, hb]
theorem hld_rg {v lo hi : Int32} (h : lo.toInt ≤ hi.toInt) : rg (hld v lo hi) lo.toInt hi.toInt := by
  unfold hld rg
  split
  · rename_i h1
    split
    · rename_i h2
      exact ⟨Int32.le_iff_toInt_le.mp h1, Int32.le_iff_toInt_le.mp h2⟩
    · exact ⟨h, Int.le_refl _⟩
  · exact ⟨Int.le_refl _, h⟩
theorem hld_id {v lo hi : Int32} (h : rg v lo.toInt hi.toInt) : hld v lo hi = v := by
  unfold hld
  rw [if_pos (Int32.le_iff_toInt_le.mpr h.1), if_pos (Int32.le_iff_toInt_le.mpr h.2)]
theorem isGood8 (x : Int32) (m : Mem) : f_X8_isGood x m = some (b2 ((0 : Int32) ≤ x ∧ x ≤ 5), m) := by
  unfold f_X8_isGood
  rw [within_eq, cal_some, b2_isb, gd_t]
theorem isGood9 (x : Int32) (m : Mem) : f_X9_isGood x m = some (b2 ((0 : Int32) ≤ x ∧ x ≤ 5), m) := by
  unfold f_X9_isGood
  rw [in_eq, cal_some, b2_isb, gd_t]
/-- replace one cell's row -/
def sR (μ : Mem) (l : Nat) (f : Nat → Int32) : Mem := fun a => if a = l then f else μ a
theorem mset_sR (μ : Mem) (l i : Nat) (v : Int32) : mset μ l i v = sR μ l (upd (μ l) i v) := by
  funext a b
  unfold mset sR upd
  by_cases h : a = l
  · subst h
    by_cases hb : b = i
    · simp [hb]
    · simp [hb]
  · simp [h]
theorem sR_same (μ : Mem) (l : Nat) (f : Nat → Int32) : sR μ l f l = f := if_pos rfl
theorem sR_ne {μ : Mem} {l a : Nat} {f : Nat → Int32} (h : a ≠ l) : sR μ l f a = μ a := if_neg h
theorem sR_sR (μ : Mem) (l : Nat) (f g : Nat → Int32) : sR (sR μ l f) l g = sR μ l g := by
  funext a
  unfold sR
  split <;> rfl
theorem sR_id (μ : Mem) (l : Nat) : sR μ l (μ l) = μ := by
  funext a
  unfold sR
  split
  · rename_i h; rw [h]
  · rfl
theorem upd_same (f : Nat → Int32) (i : Nat) (v : Int32) : upd f i v i = v := if_pos rfl
theorem upd_ne {f : Nat → Int32} {i j : Nat} {v : Int32} (h : j ≠ i) : upd f i v j = f j := if_neg h
/-- errors -/
def erN (ε : Nat → Int32) (k : Nat) : Nat → Int32 := upd ε k (ε k + 1)
theorem error8 {k : Nat} (hk : k < 7) (m : Mem) : f_X8_error 0 (nI k) m = some ((-1000000000 : Int32) - nI k, sR m 133 (erN (m 133) k)) := by
  unfold f_X8_error
  rw [inb_nI hk (by omega), gd_t, gd_t, bnd_eq, clamp_nI (by omega), mset_sR]
  rfl
theorem error9 {k : Nat} (hk : k < 7) (m : Mem) : f_X9_error 142 (nI k) m = some ((-1000000000 : Int32) - nI k, sR m 146 (erN (m 146) k)) := by
  unfold f_X9_error
  rw [inb_nI hk (by omega), gd_t, gd_t, bnd_eq, clamp_nI (by omega), mset_sR]
  rfl
-- the model's row: how many shops, customers, bytes, sales told
def nS (σ : Nat → Int32) : Nat := (σ 0).toNatClampNeg
def nC (σ : Nat → Int32) : Nat := (σ 1).toNatClampNeg
def nT (σ : Nat → Int32) : Nat := (σ 6).toNatClampNeg
def nW (σ : Nat → Int32) : Nat := (σ 7).toNatClampNeg
def ShopOk (σ : Nat → Int32) (k : Nat) : Prop := rg (σ (16 + 21 * k)) 0 6 ∧ rg (σ (17 + 21 * k)) 0 9 ∧ rg (σ (18 + 21 * k)) (-999999) 999999 ∧ (∀ g, g < 6 → rg (σ (19 + 21 * k + g)) 0 9) ∧ (∀ g, g < 6 → rg (σ (25 + 21 * k + g)) 0 99)
def CustOk (σ : Nat → Int32) (c : Nat) : Prop := rg (σ (142 + 4 * c)) 0 63 ∧ rg (σ (143 + 4 * c)) 1 12 ∧ rg (σ (144 + 4 * c)) 0 1 ∧ rg (σ (145 + 4 * c)) 0 999
/-- a step of a text as the class's code -/
def encI (u v : Int32) : Int32 := sidx u v
def encS (u what v : Int32) : Int32 := if what = 0 then v else if what = 1 then -1 - sidx u v else if what = 2 then -33 else -v
/-- how high the pile is behind the first i steps -/
def hgt (t : Nat → Int32) : Nat → Int
  | 0 => 0
  | i + 1 => hgt t i + (if t (1 + 2 * i) = 0 ∨ t (1 + 2 * i) = 1 then 1 else if t (1 + 2 * i) = 2 then 0 else -1)
def StepOk (u : Nat) (what v : Int32) : Prop := (what = 0 ∧ rg v 0 9999) ∨ (what = 1 ∧ rg (sidx (nI u) v) 0 3 ∧ rg v 99 115) ∨ (what = 2 ∧ v = 0) ∨ (what = 3 ∧ (v = 124 ∨ v = 38 ∨ v = 60 ∨ v = 61 ∨ v = 62 ∨ v = 43 ∨ v = 45 ∨ v = 42 ∨ v = 47 ∨ v = 37))
/-- a text's row t (t 0: how many steps): every step is one, the pile never runs out, one number is left -/
def TextOk (u : Nat) (t : Nat → Int32) : Prop := rg (t 0) 0 60 ∧ (∀ i, i < (t 0).toNatClampNeg → StepOk u (t (1 + 2 * i)) (t (2 + 2 * i)) ∧ 1 ≤ hgt t (i + 1) ∧ (t (1 + 2 * i) = 2 → 1 ≤ hgt t i) ∧ (t (1 + 2 * i) = 3 → 2 ≤ hgt t i)) ∧ (0 < (t 0).toNatClampNeg → hgt t (t 0).toNatClampNeg = 1)
def txt (σ : Nat → Int32) (u : Nat) : Nat → Int32 := fun i => σ (182 + 125 * u + i)
def Inv (σ : Nat → Int32) : Prop := rg (σ 0) 0 6 ∧ rg (σ 1) 0 10 ∧ rg (σ 4) 0 1 ∧ rg (σ 5) 0 2 ∧ rg (σ 6) 0 60 ∧ rg (σ 7) 0 24 ∧ (∀ g, g < 6 → rg (σ (10 + g)) 0 99) ∧ (∀ k, k < nS σ → ShopOk σ k) ∧ (∀ c, c < nC σ → CustOk σ c) ∧ (∀ u, u < 2 → TextOk u (txt σ u)) ∧ (∀ i, i < nT σ → rg (σ (432 + i)) 0 255)
/-- where the class keeps the model's number i: a cell behind the World, a place in it -/
def am (i : Nat) : Option (Nat × Nat) :=
  if i < 9 then [(0, 4), (0, 6), (0, 7), (0, 8), (0, 1), (0, 2), (0, 12), (0, 14), (0, 9)][i]?
  else if i < 10 then none
  else if i < 16 then some (1, i - 10)
  else if i < 142 then (if (i - 16) % 21 < 3 then some (7 + 3 * ((i - 16) / 21), (i - 16) % 21) else if (i - 16) % 21 < 9 then some (8 + 3 * ((i - 16) / 21), (i - 16) % 21 - 3) else if (i - 16) % 21 < 15 then some (9 + 3 * ((i - 16) / 21), (i - 16) % 21 - 9) else none)
  else if i < 182 then some (25 + (i - 142) / 4, (i - 142) % 4)
  else if i < 432 then none
  else if i < 492 then some (5, i - 432)
  else if i < 516 then some (6, i - 492)
  else none
def lve (σ : Nat → Int32) (i : Nat) : Prop := (16 ≤ i → i < 142 → (i - 16) / 21 < nS σ) ∧ (142 ≤ i → i < 182 → (i - 142) / 4 < nC σ) ∧ (432 ≤ i → i < 492 → i - 432 < nT σ) ∧ (492 ≤ i → i - 492 < nW σ)
def bk (p : Nat × Nat) : Nat :=
  if p.1 = 0 then [0, 4, 5, 0, 0, 0, 1, 2, 3, 8, 0, 0, 6, 0, 7].getD p.2 0
  else if p.1 = 1 then 10 + p.2
  else if p.1 = 5 then 432 + p.2
  else if p.1 = 6 then 492 + p.2
  else if p.1 < 25 then (if (p.1 - 7) % 3 = 0 then 16 + 21 * ((p.1 - 7) / 3) + p.2 else if (p.1 - 7) % 3 = 1 then 19 + 21 * ((p.1 - 7) / 3) + p.2 else 25 + 21 * ((p.1 - 7) / 3) + p.2)
  else 142 + 4 * (p.1 - 25) + p.2
theorem am_all : (List.range 516).all (fun i => match am i with
  | some p => decide (bk p = i ∧ p.1 < 35 ∧ (i < 182 ∨ 432 ≤ i) ∧ (16 ≤ i → i < 142 → (i - 16) % 21 < 15) ∧ (7 ≤ p.1 → p.1 < 25 → (p.1 - 7) % 3 = 0 → p.2 < 3))
  | none => true) = true := by decide +kernel
theorem am_lt {i : Nat} {p : Nat × Nat} (h : am i = some p) : i < 516 := by
  rcases Nat.lt_or_ge i 516 with q | q
  · exact q
  · have : am i = none := by
      unfold am
      rw [if_neg (by omega), if_neg (by omega), if_neg (by omega), if_neg (by omega), if_neg (by omega), if_neg (by omega), if_neg (by omega), if_neg (by omega)]
    rw [this] at h
    cases h
theorem am_bk {i : Nat} {p : Nat × Nat} (h : am i = some p) : bk p = i ∧ p.1 < 35 ∧ (i < 182 ∨ 432 ≤ i) ∧ (16 ≤ i → i < 142 → (i - 16) % 21 < 15) ∧ (7 ≤ p.1 → p.1 < 25 → (p.1 - 7) % 3 = 0 → p.2 < 3) := by
  have h1 := List.all_eq_true.mp am_all i (List.mem_range.mpr (am_lt h))
  rw [h] at h1
  exact of_decide_eq_true h1
theorem am_inj {i j : Nat} {p : Nat × Nat} (hi : am i = some p) (hj : am j = some p) : i = j := (am_bk hi).1.symm.trans (am_bk hj).1
def HadR (μ : Mem) (w : Nat) (σ : Nat → Int32) : Prop := ∀ k, k < nS σ → ∀ g, g < 6 → ((isr (μ (w + 7 + 3 * k) 5) (nI g) &&& 1 = 0) ↔ σ (31 + 21 * k + g) = 0)
def TxtR (μ : Mem) (w : Nat) (σ : Nat → Int32) : Prop := ∀ u, u < 2 → μ (w + 35 + 3 * u) 1 = σ (182 + 125 * u) ∧ ∀ i, i < (σ (182 + 125 * u)).toNatClampNeg → μ (w + 36 + 3 * u) i = encS (nI u) (σ (183 + 125 * u + 2 * i)) (σ (184 + 125 * u + 2 * i))
def RepX (μ : Mem) (w : Nat) (σ : Nat → Int32) (P : Nat → Prop) : Prop := ∀ i p, am i = some p → P i → μ (w + p.1) p.2 = σ i
def RepW (μ : Mem) (w : Nat) (σ : Nat → Int32) : Prop := RepX μ w σ (lve σ) ∧ HadR μ w σ ∧ TxtR μ w σ
/-- nothing but this World's cells has changed -/
def FrW (w : Nat) (μ μ' : Mem) : Prop := ∀ l, l < w ∨ w + 41 ≤ l → μ' l = μ l
