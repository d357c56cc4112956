/-! PURE 17: how the two objects stand to each other -/
theorem Inv.cg {σ σ' : Nat → Int32} (h : Inv σ) (he : ∀ i, i < 516 → σ' i = σ i) : Inv σ' := by
  have c10 := h.c10
  have s6 := h.n6
  have t60 := h.T60
  obtain ⟨h0, h1, h4, h5, h6, h7, hc, hS, hC, hT, hB⟩ := h
  have n0 : nS σ' = nS σ := by unfold nS; rw [he 0 (by omega)]
  have n1 : nC σ' = nC σ := by unfold nC; rw [he 1 (by omega)]
  have n6 : nT σ' = nT σ := by unfold nT; rw [he 6 (by omega)]
  refine ⟨by rw [he 0 (by omega)]; exact h0, by rw [he 1 (by omega)]; exact h1, by rw [he 4 (by omega)]; exact h4, by rw [he 5 (by omega)]; exact h5, by rw [he 6 (by omega)]; exact h6, by rw [he 7 (by omega)]; exact h7, fun g hg => by rw [he _ (by omega)]; exact hc g hg, fun k hk => ?_, fun c hc => ?_, fun u hu => ?_, fun j hj => ?_⟩
  · rw [n0] at hk
    refine ShopOk.mk (fun j hj => ?_)
    rw [he _ (by omega)]
    exact (hS k hk).at hj
  · rw [n1] at hc
    exact (hC c hc).eq (by omega) (fun j h1 h2 => he j (by omega))
  · exact (hT u hu).eq (txt_eq hu (fun j h1 h2 => he j (by omega)))
  · rw [n6] at hj
    rw [he _ (by omega)]
    exact hB j hj
theorem RepW.cg {μ : Mem} {w : Nat} {σ σ' : Nat → Int32} (h : RepW μ w σ) (hI : Inv σ) (he : ∀ i, i < 516 → σ' i = σ i) : RepW μ w σ' := by
  have s6 := hI.n6
  have n0 : nS σ' = nS σ := by unfold nS; rw [he 0 (by omega)]
  have hlv : lve σ' = lve σ := by
    unfold lve nS nC nT nW
    rw [he 0 (by omega), he 1 (by omega), he 6 (by omega), he 7 (by omega)]
  refine ⟨?_, ?_, ?_⟩
  · rw [hlv]
    intro i p hi hl
    rw [he i (am_lt hi)]
    exact h.1 i p hi hl
  · intro k hk g hg
    rw [n0] at hk
    rw [he _ (by omega)]
    exact h.2.1 k hk g hg
  · intro u hu
    have ht := hI.t60 u hu
    rw [he (182 + 125 * u) (by omega)]
    refine ⟨(h.2.2 u hu).1, fun i hi => ?_⟩
    rw [he _ (by omega), he _ (by omega)]
    exact (h.2.2 u hu).2 i hi
theorem RepW.fr {μ μ' : Mem} {w : Nat} {σ : Nat → Int32} (h : RepW μ w σ) (hI : Inv σ) (he : ∀ l, w ≤ l → l < w + 41 → μ' l = μ l) : RepW μ' w σ := by
  have s6 := hI.n6
  refine ⟨fun i p hi hl => ?_, fun k hk g hg => ?_, fun u hu => ⟨?_, fun i hi => ?_⟩⟩
  · have := (am_bk hi).2.1
    rw [he _ (by omega) (by omega)]
    exact h.1 i p hi hl
  · rw [he _ (by omega) (by omega)]
    exact h.2.1 k hk g hg
  · rw [he _ (by omega) (by omega)]
    exact (h.2.2 u hu).1
  · rw [he _ (by omega) (by omega)]
    exact (h.2.2 u hu).2 i hi
def ShOk (μ : Mem) (i : Nat) : Prop := μ (134 + 2 * i) 0 = μ 151 i ∧ μ (134 + 2 * i) 1 = μ 152 i ∧ (μ 151 i = 0 ∨ μ 151 i = 8 ∨ μ 151 i = 16 ∨ μ 151 i = 32) ∧ rg (μ 152 i) 0 24 ∧ ∀ j, j < 24 → μ (135 + 2 * i) j = μ 153 (24 * i + j)
def TrOk (μ : Mem) : Prop := μ 128 1 = μ 142 13 ∧ rg (μ 142 13) 0 30 ∧ ∀ j, j < (μ 142 13).toNatClampNeg → μ 129 j = μ 150 j
def ErOk (μ : Mem) : Prop := ∀ k, k < 7 → μ 133 k = μ 146 k
def ImOk (μ : Mem) : Prop := μ 0 8 = μ 142 3 ∧ (¬ μ 142 3 = 0 → RepW μ 42 (μ 144) ∧ Inv (μ 144))
def Oth (μ : Mem) : Prop := ImOk μ ∧ ErOk μ ∧ TrOk μ ∧ ∀ i, i < 4 → ShOk μ i
def Rel (μ : Mem) : Prop := RepW μ 1 (μ 143) ∧ Inv (μ 143) ∧ Oth μ
def oc (l : Nat) : Prop := l = 0 ∨ (42 ≤ l ∧ l < 83) ∨ l = 128 ∨ l = 129 ∨ (133 ≤ l ∧ l ≤ 142) ∨ l = 144 ∨ l = 146 ∨ (150 ≤ l ∧ l ≤ 153)
def FrC (μ μ' : Mem) : Prop := ∀ l, oc l ∨ 143 ≤ l → μ' l = μ l
def FrM (μ μ' : Mem) : Prop := ∀ l, oc l ∨ l < 142 → μ' l = μ l
theorem FrC.rf (μ : Mem) : FrC μ μ := fun _ _ => rfl
theorem FrM.rf (μ : Mem) : FrM μ μ := fun _ _ => rfl
theorem FrC.tr {a b c : Mem} (h1 : FrC a b) (h2 : FrC b c) : FrC a c := fun l hl => (h2 l hl).trans (h1 l hl)
theorem FrM.tr {a b c : Mem} (h1 : FrM a b) (h2 : FrM b c) : FrM a c := fun l hl => (h2 l hl).trans (h1 l hl)
theorem FrW.c1 {a b : Mem} (h : FrW 1 a b) : FrC a b := fun l hl => h l (by unfold oc at hl; omega)
theorem FrW.c83 {a b : Mem} (h : FrW 83 a b) : FrC a b := fun l hl => h l (by unfold oc at hl; omega)
theorem FrG.m {a b : Mem} (h : FrG a b) : FrM a b := fun l hl => h l (by unfold oc at hl; omega) (by unfold oc at hl; omega) (by unfold oc at hl; omega)
theorem FrM.s145 (μ : Mem) (f : Nat → Int32) : FrM μ (sR μ 145 f) := fun l hl => sR_ne (by unfold oc at hl; omega)
theorem FrM.s143 (μ : Mem) (f : Nat → Int32) : FrM μ (sR μ 143 f) := fun l hl => sR_ne (by unfold oc at hl; omega)
theorem Oth.fr {μ μ' : Mem} (h : Oth μ) (he : ∀ l, oc l → μ' l = μ l) : Oth μ' := by
  obtain ⟨⟨h1, h2⟩, h3, ⟨h4, h5, h6⟩, h7⟩ := h
  have e0 := he 0 (by unfold oc; omega)
  have e142 := he 142 (by unfold oc; omega)
  have e144 := he 144 (by unfold oc; omega)
  have e133 := he 133 (by unfold oc; omega)
  have e146 := he 146 (by unfold oc; omega)
  have e128 := he 128 (by unfold oc; omega)
  have e129 := he 129 (by unfold oc; omega)
  have e150 := he 150 (by unfold oc; omega)
  have e151 := he 151 (by unfold oc; omega)
  have e152 := he 152 (by unfold oc; omega)
  have e153 := he 153 (by unfold oc; omega)
  refine ⟨⟨by rw [e0, e142]; exact h1, fun hn => ?_⟩, fun k hk => by rw [e133, e146]; exact h3 k hk, ⟨by rw [e128, e142]; exact h4, by rw [e142]; exact h5, fun j hj => ?_⟩, fun i hi => ?_⟩
  · rw [e142] at hn
    rw [e144]
    exact ⟨(h2 hn).1.fr (h2 hn).2 (fun l a b => he l (by unfold oc; omega)), (h2 hn).2⟩
  · rw [e142] at hj
    rw [e129, e150]
    exact h6 j hj
  · obtain ⟨a, b, c, d, e⟩ := h7 i hi
    have x1 := he (134 + 2 * i) (by unfold oc; omega)
    have x2 := he (135 + 2 * i) (by unfold oc; omega)
    refine ⟨by rw [x1, e151]; exact a, by rw [x1, e152]; exact b, by rw [e151]; exact c, by rw [e152]; exact d, fun j hj => ?_⟩
    rw [x2, e153]
    exact e j hj
/-- the two answer alike, and stand alike -/
def Sm (X : Res) (Y : Mem → Res) : Prop := ∃ r μ1 μ2, X = some (r, μ1) ∧ Y μ1 = some (r, μ2) ∧ Rel μ2
theorem Sm.mk {μ μ1 : Mem} {X : Res} {Y : Mem → Res} {r : Int32} {σ' : Nat → Int32} (h : Rel μ) (hX : X = some (r, μ1)) (h1 : RepW μ1 1 σ') (f1 : FrC μ μ1) (hI : Inv σ') (hY : ∃ μ2, Y μ1 = some (r, μ2) ∧ μ2 143 = σ' ∧ FrM μ1 μ2) : Sm X Y := by
  obtain ⟨μ2, e, s, f2⟩ := hY
  refine ⟨r, μ1, μ2, hX, e, ?_, by rw [s]; exact hI, h.2.2.fr (fun l hl => (f2 l (Or.inl hl)).trans (f1 l (Or.inl hl)))⟩
  rw [s]
  exact h1.fr hI (fun l a b => f2 l (by omega))
theorem Sm.er {μ : Mem} {X : Res} {Y : Mem → Res} (h : Rel μ) {k : Nat} (hk : k < 7) (hX : X = f_X8_error 0 (nI k) μ) (hY : ∀ μ1, μ1 143 = μ 143 → FrC μ (sR μ1 133 (μ 133)) → Y μ1 = f_X9_error 142 (nI k) μ1) : Sm X Y := by
  obtain ⟨h1, h2, h3⟩ := h
  refine ⟨_, _, _, hX.trans (error8 hk μ), (hY _ (sR_ne (by omega)) ?_).trans (error9 hk _), ?_⟩
  · intro l hl
    rw [sR_sR, sR_id]
  · generalize hm : sR μ 133 (erN (μ 133) k) = m1
    have e1 : ∀ l, l ≠ 133 → m1 l = μ l := fun l hl => by rw [← hm]; exact sR_ne hl
    have e133 : m1 133 = erN (μ 133) k := by rw [← hm]; exact sR_same _ _ _
    generalize hm2 : sR m1 146 (erN (m1 146) k) = m2
    have e2 : ∀ l, l ≠ 133 → l ≠ 146 → m2 l = μ l := fun l hl h2 => by rw [← hm2, sR_ne h2, e1 l hl]
    have e146 : m2 146 = erN (μ 146) k := by rw [← hm2, sR_same, e1 _ (by omega)]
    have f133 : m2 133 = erN (μ 133) k := by rw [← hm2, sR_ne (by omega), e133]
    refine ⟨?_, by rw [e2 _ (by omega) (by omega)]; exact h2, ?_⟩
    · rw [e2 143 (by omega) (by omega)]
      exact h1.fr h2 (fun l a b => e2 l (by omega) (by omega))
    · obtain ⟨⟨i1, i2⟩, i3, ⟨i4, i5, i6⟩, i7⟩ := h3
      refine ⟨⟨by rw [e2 _ (by omega) (by omega), e2 _ (by omega) (by omega)]; exact i1, fun hn => ?_⟩, fun j hj => ?_, ⟨by rw [e2 _ (by omega) (by omega), e2 _ (by omega) (by omega)]; exact i4, by rw [e2 _ (by omega) (by omega)]; exact i5, fun j hj => ?_⟩, fun i hi => ?_⟩
      · rw [e2 _ (by omega) (by omega)] at hn
        rw [e2 144 (by omega) (by omega)]
        exact ⟨(i2 hn).1.fr (i2 hn).2 (fun l a b => e2 l (by omega) (by omega)), (i2 hn).2⟩
      · rw [f133, e146]
        unfold erN
        by_cases q : j = k
        · rw [q, upd_same, upd_same, i3 k hk]
        · rw [upd_ne q, upd_ne q]
          exact i3 j hj
      · rw [e2 142 (by omega) (by omega)] at hj
        rw [e2 _ (by omega) (by omega), e2 _ (by omega) (by omega)]
        exact i6 j hj
      · obtain ⟨a, b, c, d, e⟩ := i7 i hi
        unfold ShOk
        rw [e2 (134 + 2 * i) (by omega) (by omega), e2 (135 + 2 * i) (by omega) (by omega), e2 151 (by omega) (by omega), e2 152 (by omega) (by omega), e2 153 (by omega) (by omega)]
        exact ⟨a, b, c, d, e⟩
theorem cal_e (X : Res) : cal X (fun r m => some (r, m)) = X := by
  unfold cal
  cases X with
  | none => rfl
  | some q => rfl
/-- does it hold, and which shop -/
theorem hasShop7 {μ : Mem} {w : Nat} {σ : Nat → Int32} (h : RepW μ w σ) (x : Int32) : f_X7_hasShop w x μ = some (b2 ((0 : Int32) ≤ x ∧ x ≤ σ 0 - 1), μ) := by
  unfold f_X7_hasShop
  rw [within_eq, cal_some, b2_isb, gd_t, rd_n h]
theorem hasCust7 {μ : Mem} {w : Nat} {σ : Nat → Int32} (h : RepW μ w σ) (x : Int32) : f_X7_hasCustomer w x μ = some (b2 ((0 : Int32) ≤ x ∧ x ≤ σ 1 - 1), μ) := by
  unfold f_X7_hasCustomer
  rw [within_eq, cal_some, b2_isb, gd_t, rd_c h]
theorem isShop9 {μ : Mem} {σ : Nat → Int32} (h : μ 143 = σ) (x : Int32) : f_X9_isShop 142 x μ = some (b2 ((0 : Int32) ≤ x ∧ x ≤ σ 0 - 1), μ) := by
  unfold f_X9_isShop
  rw [show inb (0 : Int32) 516 = true from by decide, gd_t, in_eq, cal_some, b2_isb, gd_t, ix143 h, z0]
theorem isCust9 {μ : Mem} {σ : Nat → Int32} (h : μ 143 = σ) (x : Int32) : f_X9_isCustomer 142 x μ = some (b2 ((0 : Int32) ≤ x ∧ x ≤ σ 1 - 1), μ) := by
  unfold f_X9_isCustomer
  rw [show inb (1 : Int32) 516 = true from by decide, gd_t, in_eq, cal_some, b2_isb, gd_t, ix143 h, z1]
theorem up_to {x y : Int32} {n m : Nat} (hy : y = nI n) (hn : n ≤ m) (hm : m < 2 ^ 31) (h : (0 : Int32) ≤ x ∧ x ≤ y - 1) : ∃ k, k < n ∧ x = nI k := by
  obtain ⟨h1, h2⟩ := h
  rcases Nat.eq_zero_or_pos n with q | q
  · rw [hy, q] at h2
    have := Int32.le_iff_toInt_le.mp (Int32.le_trans h1 h2)
    exact absurd this (by decide)
  · rw [hy, nI_pred1 q] at h2
    have a1 := Int32.le_iff_toInt_le.mp h1
    have a2 := Int32.le_iff_toInt_le.mp h2
    rw [nI_toInt (by omega)] at a2
    obtain ⟨k, hk, e⟩ := rg_nI (x := x) (n := n - 1) ⟨a1, by omega⟩ (by omega)
    exact ⟨k, by omega, e⟩
theorem lit_rg {x a b : Int32} (lo hi : Nat) (ha : a = nI lo) (hb : b = nI hi) (hh : hi < 2 ^ 31) (hl : lo ≤ hi) (h : a ≤ x ∧ x ≤ b) : ∃ k, lo ≤ k ∧ k ≤ hi ∧ x = nI k := by
  obtain ⟨h1, h2⟩ := h
  have a1 := Int32.le_iff_toInt_le.mp h1
  have a2 := Int32.le_iff_toInt_le.mp h2
  rw [ha, nI_toInt (by omega)] at a1
  rw [hb, nI_toInt (by omega)] at a2
  obtain ⟨k, hk, e⟩ := rg_nI (x := x) (n := hi) ⟨by omega, by omega⟩ (by omega)
  refine ⟨k, ?_, hk, e⟩
  rw [e, nI_toInt (by omega)] at a1
  omega
theorem Inv.sh {σ : Nat → Int32} (hI : Inv σ) {x : Int32} (h : (0 : Int32) ≤ x ∧ x ≤ σ 0 - 1) : ∃ k, k < nS σ ∧ x = nI k := up_to hI.s0 hI.n6 (by omega) h
theorem Inv.cu {σ : Nat → Int32} (hI : Inv σ) {x : Int32} (h : (0 : Int32) ≤ x ∧ x ≤ σ 1 - 1) : ∃ k, k < nC σ ∧ x = nI k := up_to hI.s1 hI.c10 (by omega) h
/-- a fact of a shop -/
def fct (σ : Nat → Int32) (k j : Nat) : Int32 := if j = 15 then maySet σ k else σ (16 + 21 * k + j)
theorem nI_ne {a b : Nat} (ha : a < 2 ^ 31) (hb : b < 2 ^ 31) (h : a ≠ b) : ¬ nI a = nI b := fun q => h (nI_inj q ha hb)
theorem eqI {x : Int32} (b : Nat) (hx : x = nI b) (hb : b < 2 ^ 31) {a : Nat} (ha : a < 2 ^ 31) : (nI a = x) ↔ a = b := by
  rw [hx]
  exact ⟨fun q => nI_inj q ha hb, fun q => by rw [q]⟩
theorem nI_sub' {a b : Nat} {x : Int32} (hx : x = nI b) (h : b ≤ a) : nI a - x = nI (a - b) := by rw [hx]; exact nI_sub h
theorem factOf7 {μ : Mem} {w : Nat} {σ : Nat → Int32} (h : RepW μ w σ) (hI : Inv σ) {k j : Nat} (hk : k < nS σ) (hj : j ≤ 15) : f_X7_factOf w (nI k) (nI j) μ = some (fct σ k j, μ) := by
  have h6 := hI.n6
  unfold f_X7_factOf X7_factOf_J74 fct
  rw [inb_nI (k := k) (by omega) (by omega), gd_t, clamp_nI (k := k) (by omega), locA, locB, locC]
  by_cases c0 : j = 0
  · subst c0
    rw [if_pos (show nI 0 = 0 from rfl), rd_kind h hI hk]
    rfl
  rw [if_neg (fun q => c0 ((eqI (x := 0) 0 rfl (by omega) (by omega)).mp q))]
  by_cases c1 : j = 1
  · subst c1
    rw [if_pos (show nI 1 = 1 from rfl), rd_m h hI hk, if_neg (by omega), show 16 + 21 * k + 1 = 17 + 21 * k by omega]
  rw [if_neg (fun q => c1 ((eqI (x := 1) 1 rfl (by omega) (by omega)).mp q))]
  by_cases c2 : j = 2
  · subst c2
    rw [if_pos (show nI 2 = 2 from rfl), rd_purse h hI hk, if_neg (by omega), show 16 + 21 * k + 2 = 18 + 21 * k by omega]
  rw [if_neg (fun q => c2 ((eqI (x := 2) 2 rfl (by omega) (by omega)).mp q))]
  by_cases c3 : 9 ≤ j
  · rw [if_pos ((lit_le (x := 9) 9 rfl (by omega) (by omega)).mpr c3)]
    by_cases c4 : j = 15
    · rw [if_pos ((lit_le (x := 15) 15 rfl (by omega) (by omega)).mpr (by omega)), mayGoods7 h hI hk, cal_some, if_pos c4]
    · rw [if_neg (fun q => absurd ((lit_le (x := 15) 15 rfl (by omega) (by omega)).mp q) (by omega)), nI_sub' (x := 9) (b := 9) rfl (by omega), inb_nI (by omega) (by omega), gd_t, clamp_nI (by omega), rd_stock h hI hk (by omega), if_neg c4, show 25 + 21 * k + (j - 9) = 16 + 21 * k + j by omega]
  · rw [if_neg (fun q => absurd ((lit_le (x := 9) 9 rfl (by omega) (by omega)).mp q) (by omega)), nI_sub' (x := 3) (b := 3) rfl (by omega), inb_nI (by omega) (by omega), gd_t, clamp_nI (by omega), rd_keeps h hI hk (by omega), if_neg (by omega), show 19 + 21 * k + (j - 3) = 16 + 21 * k + j by omega]
theorem toldShop9 {μ : Mem} {σ : Nat → Int32} (h : μ 143 = σ) (hI : Inv σ) {k j : Nat} (hk : k < nS σ) (hj : j ≤ 15) : f_X9_toldShop 142 (nI k) (nI j) μ = some (fct σ k j, μ) := by
  have h6 := hI.n6
  unfold f_X9_toldShop X9_toldShop_J20 fct
  by_cases c : j = 15
  · subst c
    rw [if_pos (show nI 15 = 15 from rfl), maySell9 (by rw [h]; exact hI) (by rw [h]; exact hk), cal_some, if_pos rfl, h]
  · rw [if_neg (fun q => c ((eqI (x := 15) 15 rfl (by omega) (by omega)).mp q)), its9 (by omega), cal_some, if_neg c, h]
