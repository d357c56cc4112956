/-! PURE 8: a shop is filled -/
def FrG (μ μ' : Mem) : Prop := ∀ l, l ≠ 143 → l ≠ 148 → l ≠ 149 → μ' l = μ l
theorem FrG.rf (μ : Mem) : FrG μ μ := fun _ _ _ _ => rfl
theorem FrG.tr {a b c : Mem} (h1 : FrG a b) (h2 : FrG b c) : FrG a c := fun l x y z => (h2 l x y z).trans (h1 l x y z)
theorem ScM.G {a b : Mem} (h : ScM a b) : FrG a b := fun l _ y z => h l y z
theorem FrG.s (μ : Mem) (f : Nat → Int32) : FrG μ (sR μ 143 f) := fun l h _ _ => sR_ne h
theorem ScM.s3 {a b : Mem} (h : ScM a b) : b 143 = a 143 := h 143 (by omega) (by omega)
/-- the class does it, the model does it -/
def PW (w : Nat) (μ : Mem) (X : Res) (r : Int32) (σ' : Nat → Int32) : Prop := ∃ μ', X = some (r, μ') ∧ RepW μ' w σ' ∧ FrW w μ μ'
def PM (μ : Mem) (X : Res) (r : Int32) (σ' : Nat → Int32) : Prop := ∃ μ', X = some (r, μ') ∧ μ' 143 = σ' ∧ FrG μ μ'
def fill1 (σ : Nat → Int32) (k g : Nat) : Nat → Int32 := upd (gts σ k ((-σ (10 + g)) * imax 0 (fil σ k g - stk σ k g))) (25 + 21 * k + g) (fil σ k g)
theorem fill1_inv {σ : Nat → Int32} (hI : Inv σ) {k g : Nat} (hk : k < nS σ) (hg : g < 6) : Inv (fill1 σ k g) := by
  have h6 := hI.n6
  exact (gts_inv hI (by omega) _).uStock (by omega) hg (fil_rg hI hk hg)
theorem fill1_nS (σ : Nat → Int32) (k g : Nat) : nS (fill1 σ k g) = nS σ := by
  unfold fill1
  have := gts_nS σ k ((-σ (10 + g)) * imax 0 (fil σ k g - stk σ k g))
  unfold nS at this ⊢
  rw [upd_ne (by omega)]
  exact this
theorem fill1_ne {σ : Nat → Int32} {k g i : Nat} (h : i < 16 ∨ 142 ≤ i) (hk : k < 6) (hg : g < 6) : fill1 σ k g i = σ i := by
  unfold fill1
  rw [upd_ne (by omega), gts_ne (by omega)]
def fillGo (k : Nat) : Nat → Nat → (Nat → Int32) → (Nat → Int32)
  | 0, _, σ => σ
  | d + 1, i, σ => fillGo k d (i + 1) (fill1 σ k i)
def fillSh (σ : Nat → Int32) (k : Nat) : Nat → Int32 := fillGo k 6 0 σ
theorem fillGo_ok {k : Nat} : ∀ d i (σ : Nat → Int32), i + d = 6 → Inv σ → k < nS σ → Inv (fillGo k d i σ) ∧ nS (fillGo k d i σ) = nS σ ∧ ∀ j, j < 16 ∨ 142 ≤ j → fillGo k d i σ j = σ j := by
  intro d
  induction d with
  | zero => intro i σ _ h hk; exact ⟨h, rfl, fun _ _ => rfl⟩
  | succ d ih =>
    intro i σ hi h hk
    have h6 := h.n6
    obtain ⟨a, b, c⟩ := ih (i + 1) (fill1 σ k i) (by omega) (fill1_inv h hk (by omega)) (by rw [fill1_nS]; exact hk)
    refine ⟨a, by rw [← fill1_nS σ k i]; exact b, fun j hj => ?_⟩
    show fillGo k d (i + 1) (fill1 σ k i) j = σ j
    rw [c j hj, fill1_ne hj (by omega) (by omega)]
theorem fillShop7 {w k : Nat} : ∀ d i (μ : Mem) (σ : Nat → Int32) n, i + d = 6 → d < n → RepW μ w σ → Inv σ → k < nS σ → PW w μ (X7_fillShop_L9 n w (nI k) (w + 7 + 3 * k) (nI i) μ) 0 (fillGo k d i σ) := by
  intro d
  induction d with
  | zero =>
    intro i μ σ n hi hn h hI hk
    obtain ⟨n, rfl⟩ : ∃ m, n = m + 1 := ⟨n - 1, by omega⟩
    refine ⟨μ, ?_, h, FrW.rf w μ⟩
    show X7_fillShop_L9B _ w (nI k) (w + 7 + 3 * k) (nI i) μ = _
    unfold X7_fillShop_L9B
    rw [if_pos ((six_le (by omega)).mpr (by omega))]
  | succ d ih =>
    intro i μ σ n hi hn h hI hk
    have h6 := hI.n6
    obtain ⟨n, rfl⟩ : ∃ m, n = m + 1 := ⟨n - 1, by omega⟩
    obtain ⟨μ1, e1, r1, f1⟩ := fillOf7 h hI hk (g := i) (by omega)
    obtain ⟨μ2, e2, r2, f2⟩ := earn5 r1 hI hk ((-σ (10 + i)) * imax 0 (fil σ k i - stk σ k i))
    have r3 := wr_stock r2 (gts_inv hI (k := k) (by omega) _) (k := k) (g := i) (by omega) (by omega) (fil σ k i)
    have f3 : FrW w μ2 (mset μ2 (w + 9 + 3 * k) i (fil σ k i)) := by rw [Nat.add_assoc]; exact FrW.ms (by omega)
    obtain ⟨μ4, e4, r4, f4⟩ := ih (i + 1) _ (fill1 σ k i) n (by omega) (by omega) r3 (fill1_inv hI hk (by omega)) (by rw [fill1_nS]; exact hk)
    refine ⟨μ4, ?_, r4, (((f1.tr f2).tr f3).tr f4)⟩
    show X7_fillShop_L9B (X7_fillShop_L9 n) w (nI k) (w + 7 + 3 * k) (nI i) μ = _
    unfold X7_fillShop_L9B
    rw [if_neg (fun q => absurd ((six_le (by omega)).mp q) (by omega)), e1, cal_some, inb_nI (by omega) (by omega), gd_t, gd_t, clamp_nI (by omega), locC, rd_cost r1 (by omega), rd_stock r1 hI hk (by omega)]
    rw [show f_X5_earn (w + 7 + 3 * k) (-σ (10 + i) * imax 0 (fil σ k i - σ (25 + 21 * k + i))) μ1 = some (0, μ2) from e2, cal_some, gd_t, bnd_eq, bnd_eq, nI_s]
    exact e4
theorem fillShop7' {w k : Nat} {μ : Mem} {σ : Nat → Int32} (h : RepW μ w σ) (hI : Inv σ) (hk : k < nS σ) : PW w μ (f_X7_fillShop w (nI k) μ) 0 (fillSh σ k) := by
  have h6 := hI.n6
  unfold f_X7_fillShop
  rw [inb_nI (by omega) (by omega), gd_t, clamp_nI (by omega), locA]
  exact fillShop7 6 0 μ σ FU (by omega) (by decide) h hI hk
theorem more_eq (v s c : Int32) : (if v - s ≤ 0 then (0 : Int32) else (-(v - s)) * c) = (-c) * imax 0 (v - s) := by
  unfold imax
  by_cases h : v - s ≤ 0
  · rw [if_pos h, if_neg (Int32.not_lt.mpr h), Int32.mul_zero]
  · rw [if_neg h, if_pos (Int32.not_le.mp h), Int32.neg_mul, Int32.neg_mul, Int32.mul_comm]
theorem fillAll9 {k : Nat} : ∀ d i (μ : Mem) (σ : Nat → Int32) n, i + d = 6 → d < n → μ 143 = σ → Inv σ → k < nS σ → PM μ (X9_fillAll_L2 n 142 (nI k) (nI i) μ) 0 (fillGo k d i σ) := by
  intro d
  induction d with
  | zero =>
    intro i μ σ n hi hn h hI hk
    obtain ⟨n, rfl⟩ : ∃ m, n = m + 1 := ⟨n - 1, by omega⟩
    refine ⟨μ, ?_, h, FrG.rf μ⟩
    show X9_fillAll_L2B _ 142 (nI k) (nI i) μ = _
    unfold X9_fillAll_L2B
    rw [if_pos ((six_le (by omega)).mpr (by omega))]
  | succ d ih =>
    intro i μ σ n hi hn h hI hk
    have h6 := hI.n6
    obtain ⟨n, rfl⟩ : ∃ m, n = m + 1 := ⟨n - 1, by omega⟩
    obtain ⟨μ1, e1, f1⟩ := fillsOf9 h hI hk (g := i) (by omega)
    have h1 : μ1 143 = σ := by rw [f1.s3]; exact h
    generalize hc : (-σ (10 + i)) * imax 0 (fil σ k i - stk σ k i) = c
    have e2 := gets9 (μ := μ1) (by rw [h1]; exact hI) (k := k) (by omega) c
    rw [h1] at e2
    have e3 := lays9_s (μ := sR μ1 143 (gts σ k c)) (k := k) (g := i) (by omega) (by omega) (fil σ k i)
    rw [sR_same, sR_sR] at e3
    have hf : upd (gts σ k c) (25 + 21 * k + i) (fil σ k i) = fill1 σ k i := by unfold fill1; rw [hc]
    rw [hf] at e3
    obtain ⟨μ4, e4, r4, f4⟩ := ih (i + 1) (sR μ1 143 (fill1 σ k i)) (fill1 σ k i) n (by omega) (by omega) (sR_same _ _ _) (fill1_inv hI hk (by omega)) (by rw [fill1_nS]; exact hk)
    refine ⟨μ4, ?_, r4, (f1.G.tr (FrG.s _ _)).tr f4⟩
    have hj : X9_fillAll_J52 (X9_fillAll_L2 n) 142 (nI k) (nI i) (fil σ k i) 142 (nI k) c μ1 = some (0, μ4) := by
      unfold X9_fillAll_J52
      rw [e2, cal_some, e3, cal_some, bnd_eq, nI_s]
      exact e4
    show X9_fillAll_L2B (X9_fillAll_L2 n) 142 (nI k) (nI i) μ = _
    unfold X9_fillAll_L2B
    rw [if_neg (fun q => absurd ((six_le (by omega)).mp q) (by omega)), e1, cal_some, its9_s (by omega) (by omega), cal_some, bnd_eq, h1, ten9, inb_nI (by omega) (by omega), gd_t, clamp_nI (by omega)]
    have hm := more_eq (fil σ k i) (stk σ k i) (σ (10 + i))
    rw [hc] at hm
    show (if fil σ k i - stk σ k i ≤ 0 then X9_fillAll_J52 (X9_fillAll_L2 n) 142 (nI k) (nI i) (fil σ k i) 142 (nI k) 0 μ1 else X9_fillAll_J52 (X9_fillAll_L2 n) 142 (nI k) (nI i) (fil σ k i) 142 (nI k) (-(fil σ k i - stk σ k i) * σ (10 + i)) μ1) = _
    by_cases q : fil σ k i - stk σ k i ≤ 0
    · rw [if_pos q] at hm ⊢
      rw [← hm] at hj
      exact hj
    · rw [if_neg q] at hm ⊢
      rw [← hm] at hj
      exact hj
theorem fillAll9' {k : Nat} {μ : Mem} {σ : Nat → Int32} (h : μ 143 = σ) (hI : Inv σ) (hk : k < nS σ) : PM μ (f_X9_fillAll 142 (nI k) μ) 0 (fillSh σ k) := fillAll9 6 0 μ σ FU (by omega) (by decide) h hI hk
