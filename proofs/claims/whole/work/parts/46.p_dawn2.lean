/-! PURE 11: a morning, by the class and by the model -/
theorem nI_leq {a b : Nat} (ha : a < 2 ^ 31) (hb : b < 2 ^ 31) : (nI a ≤ nI b) ↔ a ≤ b := nI_leI ha hb
theorem PW.go {w : Nat} {μ μ1 : Mem} {X : Res} {r : Int32} {σ' : Nat → Int32} (h : PW w μ1 X r σ') (f : FrW w μ μ1) : PW w μ X r σ' := by
  obtain ⟨m, a, b, c⟩ := h
  exact ⟨m, a, b, f.tr c⟩
theorem PM.go {μ μ1 : Mem} {X : Res} {r : Int32} {σ' : Nat → Int32} (h : PM μ1 X r σ') (f : FrG μ μ1) : PM μ X r σ' := by
  obtain ⟨m, a, b, c⟩ := h
  exact ⟨m, a, b, f.tr c⟩
theorem morn60 {w : Nat} : ∀ d i (μ : Mem) (σ : Nat → Int32) n, i + d = nS σ → d < n → RepW μ w σ → Inv σ → PW w μ (X7_passMorning_L60 n w (nI i) μ) 0 (shGo eve1 d i σ) := by
  intro d
  induction d with
  | zero =>
    intro i μ σ n hi hn h hI
    have h6 := hI.n6
    obtain ⟨n, rfl⟩ : ∃ m, n = m + 1 := ⟨n - 1, by omega⟩
    refine ⟨μ, ?_, h, FrW.rf w μ⟩
    show X7_passMorning_L60B _ w (nI i) μ = _
    unfold X7_passMorning_L60B
    rw [rd_n h, hI.s0, if_pos ((nI_leq (by omega) (by omega)).mpr (by omega))]
  | succ d ih =>
    intro i μ σ n hi hn h hI
    have h6 := hI.n6
    obtain ⟨n, rfl⟩ : ∃ m, n = m + 1 := ⟨n - 1, by omega⟩
    have r1 := eve7 h hI (k := i) (by omega)
    obtain ⟨hI1, n1, -⟩ := eve1_ok hI (k := i) (by omega)
    have f1 : FrW w μ (mset μ (w + 7 + 3 * i) 5 (ghGo (μ (w + 9 + 3 * i)) 6 0 0)) := by rw [Nat.add_assoc w 7]; exact FrW.ms (by omega)
    have k1 := ih (i + 1) _ (eve1 σ i) n (by omega) (by omega) r1 hI1
    have hunf : X7_passMorning_L60 (n + 1) w (nI i) μ = X7_passMorning_L60 n w (nI (i + 1)) (mset μ (w + 7 + 3 * i) 5 (ghGo (μ (w + 9 + 3 * i)) 6 0 0)) := by
      show X7_passMorning_L60B (X7_passMorning_L60 n) w (nI i) μ = _
      unfold X7_passMorning_L60B
      rw [rd_n h, hI.s0, if_neg (fun q => absurd ((nI_leq (by omega) (by omega)).mp q) (by omega)), inb_nI (by omega) (by omega), gd_t, gd_t, clamp_nI (by omega), locA, goodsHere5, cal_some, locC, bnd_eq, bnd_eq, nI_s]
    rw [hunf]
    exact k1.go f1
theorem morn23 {w : Nat} : ∀ d i (μ : Mem) (σ : Nat → Int32) n, i + d = nS σ → d < n → RepW μ w σ → Inv σ → PW w μ (X7_passMorning_L23 n w (nI i) μ) 0 (shGo eve1 (nS σ) 0 (shGo buy1 d i σ)) := by
  intro d
  induction d with
  | zero =>
    intro i μ σ n hi hn h hI
    have h6 := hI.n6
    obtain ⟨n, rfl⟩ : ∃ m, n = m + 1 := ⟨n - 1, by omega⟩
    have hunf : X7_passMorning_L23 (n + 1) w (nI i) μ = X7_passMorning_L60 FU w (nI 0) μ := by
      show X7_passMorning_L23B _ w (nI i) μ = _
      unfold X7_passMorning_L23B
      rw [rd_n h, hI.s0, if_pos ((nI_leq (by omega) (by omega)).mpr (by omega))]
      rfl
    rw [hunf]
    exact morn60 (nS σ) 0 μ σ FU (by omega) (by rw [FU_eq]; omega) h hI
  | succ d ih =>
    intro i μ σ n hi hn h hI
    have h6 := hI.n6
    obtain ⟨n, rfl⟩ : ∃ m, n = m + 1 := ⟨n - 1, by omega⟩
    obtain ⟨o, e1, c0, c1⟩ := buy7 h hI (k := i) (by omega)
    obtain ⟨hI1, n1, -⟩ := buy1_ok hI (k := i) (by omega)
    have hst : X7_passMorning_L23 (n + 1) w (nI i) μ = (if eO o < 0 then X7_passMorning_L23 n w (nI (i + 1)) μ else cal (f_X7_buyOut w (nI i) (eO (lft σ i)) (eO o) μ) (fun r5 m6 => X7_passMorning_L23 n w (nI (i + 1)) m6)) := by
      show X7_passMorning_L23B (X7_passMorning_L23 n) w (nI i) μ = _
      unfold X7_passMorning_L23B X7_passMorning_J52
      rw [rd_n h, hI.s0, if_neg (fun q => absurd ((nI_leq (by omega) (by omega)).mp q) (by omega)), e1, cal_some, leftOf7 h hI (by omega), cal_some, bnd_eq, nI_s]
      simp only [bnd_eq, nI_s]
    rw [hst]
    show PW w μ _ 0 (shGo eve1 (nS σ) 0 (shGo buy1 d (i + 1) (buy1 σ i)))
    cases ho : o with
    | none =>
      rw [show eO none = (-1 : Int32) from rfl, if_pos (by decide), c0 ho]
      exact ih (i + 1) μ σ n (by omega) (by omega) h hI
    | some g =>
      obtain ⟨l, hg, hl, hb⟩ := c1 g ho
      obtain ⟨μ2, e2, r2, f2⟩ := buyOut7 h hI (k := i) (by omega) (lft_ok (by omega) l hl) hg
      rw [show eO (some g) = nI g from rfl, if_neg (nI_neg (by omega)), hl, show eO (some l) = nI l from rfl, e2, cal_some]
      rw [← hb] at r2
      rw [← n1]
      exact (ih (i + 1) μ2 (buy1 σ i) n (by omega) (by omega) r2 hI1).go f2
theorem morn2 {w : Nat} : ∀ d i (μ : Mem) (σ : Nat → Int32) n, i + d = nS σ → d < n → RepW μ w σ → Inv σ → PW w μ (X7_passMorning_L2 n w (nI i) μ) 0 (shGo eve1 (nS σ) 0 (shGo buy1 (nS σ) 0 (shGo fillSh d i σ))) := by
  intro d
  induction d with
  | zero =>
    intro i μ σ n hi hn h hI
    have h6 := hI.n6
    obtain ⟨n, rfl⟩ : ∃ m, n = m + 1 := ⟨n - 1, by omega⟩
    have hunf : X7_passMorning_L2 (n + 1) w (nI i) μ = X7_passMorning_L23 FU w (nI 0) μ := by
      show X7_passMorning_L2B _ w (nI i) μ = _
      unfold X7_passMorning_L2B
      rw [rd_n h, hI.s0, if_pos ((nI_leq (by omega) (by omega)).mpr (by omega))]
      rfl
    rw [hunf]
    exact morn23 (nS σ) 0 μ σ FU (by omega) (by rw [FU_eq]; omega) h hI
  | succ d ih =>
    intro i μ σ n hi hn h hI
    have h6 := hI.n6
    obtain ⟨n, rfl⟩ : ∃ m, n = m + 1 := ⟨n - 1, by omega⟩
    obtain ⟨μ1, e1, r1, f1⟩ := fillShop7' h hI (k := i) (by omega)
    obtain ⟨hI1, n1, -⟩ := fill_shOk σ i hI (by omega)
    have hst : X7_passMorning_L2 (n + 1) w (nI i) μ = X7_passMorning_L2 n w (nI (i + 1)) μ1 := by
      show X7_passMorning_L2B (X7_passMorning_L2 n) w (nI i) μ = _
      unfold X7_passMorning_L2B
      rw [rd_n h, hI.s0, if_neg (fun q => absurd ((nI_leq (by omega) (by omega)).mp q) (by omega)), e1, cal_some, bnd_eq, nI_s]
    rw [hst, ← n1]
    exact (ih (i + 1) μ1 (fillSh σ i) n (by omega) (by omega) r1 hI1).go f1
theorem passMorning7 {w : Nat} {μ : Mem} {σ : Nat → Int32} (h : RepW μ w σ) (hI : Inv σ) : PW w μ (f_X7_passMorning w μ) 0 (dawn σ) := by
  have h6 := hI.n6
  exact morn2 (nS σ) 0 μ σ FU (by omega) (by rw [FU_eq]; omega) h hI
theorem fifteen9 (g : Nat) : ((15 : Int32) + nI g) = nI (15 + g) := by
  show nI 15 + nI g = _
  rw [nI_add]
theorem lays9_e {μ : Mem} {k g : Nat} (h : k < 6) (hg : g < 6) (v : Int32) : f_X9_lays1 142 (nI k) (15 + nI g) v μ = some (0, sR μ 143 (upd (μ 143) (31 + 21 * k + g) v)) := by
  have := lays9' (μ := μ) (k := k) (j := 15 + g) (fifteen9 g) (by omega) v
  rwa [show 16 + 21 * k + (15 + g) = 31 + 21 * k + g by omega] at this
theorem eveLoop9 {k : Nat} (hk : k < 6) (k48 : Nat → Int32 → Mem → Res) : ∀ d i (μ : Mem) n, i + d = 6 → d < n → X9_dawns_L60 k48 n 142 (nI k) (nI i) μ = k48 142 (nI (k + 1)) (sR μ 143 (eveGo k d i (μ 143))) := by
  intro d
  induction d with
  | zero =>
    intro i μ n hi hn
    obtain ⟨n, rfl⟩ : ∃ m, n = m + 1 := ⟨n - 1, by omega⟩
    show X9_dawns_L60B k48 _ 142 (nI k) (nI i) μ = _
    unfold X9_dawns_L60B
    rw [if_pos ((six_le (by omega)).mpr (by omega)), bnd_eq, nI_s, show eveGo k 0 i (μ 143) = μ 143 from rfl, sR_id]
  | succ d ih =>
    intro i μ n hi hn
    obtain ⟨n, rfl⟩ : ∃ m, n = m + 1 := ⟨n - 1, by omega⟩
    show X9_dawns_L60B k48 _ 142 (nI k) (nI i) μ = _
    unfold X9_dawns_L60B
    rw [if_neg (fun q => absurd ((six_le (by omega)).mp q) (by omega)), its9_s hk (by omega), cal_some, lays9_e hk (by omega), cal_some, bnd_eq, nI_s, ih (i + 1) _ n (by omega) (by omega), sR_same, sR_sR]
    rfl
theorem s0_le {μ : Mem} {σ : Nat → Int32} (h : μ 143 = σ) : μ (142 + 1) (0 : Int32).toNatClampNeg = σ 0 := by
  rw [z0, show (142 + 1 : Nat) = 143 from rfl, h]
theorem dawn48 : ∀ d i (μ : Mem) (σ : Nat → Int32) n, i + d = nS σ → d < n → μ 143 = σ → Inv σ → PM μ (X9_dawns_L48 n 142 (nI i) μ) 0 (shGo eve1 d i σ) := by
  intro d
  induction d with
  | zero =>
    intro i μ σ n hi hn h hI
    have h6 := hI.n6
    obtain ⟨n, rfl⟩ : ∃ m, n = m + 1 := ⟨n - 1, by omega⟩
    refine ⟨μ, ?_, h, FrG.rf μ⟩
    show X9_dawns_L48B _ 142 (nI i) μ = _
    unfold X9_dawns_L48B
    rw [show inb (0 : Int32) 516 = true from by decide, gd_t, s0_le h, hI.s0, if_pos ((nI_leq (by omega) (by omega)).mpr (by omega))]
  | succ d ih =>
    intro i μ σ n hi hn h hI
    have h6 := hI.n6
    obtain ⟨n, rfl⟩ : ∃ m, n = m + 1 := ⟨n - 1, by omega⟩
    obtain ⟨hI1, n1, -⟩ := eve1_ok hI (k := i) (by omega)
    have hst : X9_dawns_L48 (n + 1) 142 (nI i) μ = X9_dawns_L48 n 142 (nI (i + 1)) (sR μ 143 (eve1 σ i)) := by
      show X9_dawns_L48B (X9_dawns_L48 n) 142 (nI i) μ = _
      unfold X9_dawns_L48B
      rw [show inb (0 : Int32) 516 = true from by decide, gd_t, s0_le h, hI.s0, if_neg (fun q => absurd ((nI_leq (by omega) (by omega)).mp q) (by omega))]
      have := eveLoop9 (k := i) (by omega) (X9_dawns_L48 n) 6 0 μ FU (by omega) (by decide)
      rw [h] at this
      exact this
    rw [hst]
    exact (ih (i + 1) _ (eve1 σ i) n (by omega) (by omega) (sR_same _ _ _) hI1).go (FrG.s _ _)
theorem dawn25 : ∀ d i (μ : Mem) (σ : Nat → Int32) n, i + d = nS σ → d < n → μ 143 = σ → Inv σ → PM μ (X9_dawns_L25 n 142 (nI i) μ) 0 (shGo eve1 (nS σ) 0 (shGo buy1 d i σ)) := by
  intro d
  induction d with
  | zero =>
    intro i μ σ n hi hn h hI
    have h6 := hI.n6
    obtain ⟨n, rfl⟩ : ∃ m, n = m + 1 := ⟨n - 1, by omega⟩
    have hunf : X9_dawns_L25 (n + 1) 142 (nI i) μ = X9_dawns_L48 FU 142 (nI 0) μ := by
      show X9_dawns_L25B _ 142 (nI i) μ = _
      unfold X9_dawns_L25B
      rw [show inb (0 : Int32) 516 = true from by decide, gd_t, s0_le h, hI.s0, if_pos ((nI_leq (by omega) (by omega)).mpr (by omega))]
      rfl
    rw [hunf]
    exact dawn48 (nS σ) 0 μ σ FU (by omega) (by rw [FU_eq]; omega) h hI
  | succ d ih =>
    intro i μ σ n hi hn h hI
    have h6 := hI.n6
    obtain ⟨n, rfl⟩ : ∃ m, n = m + 1 := ⟨n - 1, by omega⟩
    obtain ⟨μ1, e1, r1, f1⟩ := buys9 h hI (k := i) (by omega)
    obtain ⟨hI1, n1, -⟩ := buy1_ok hI (k := i) (by omega)
    have hst : X9_dawns_L25 (n + 1) 142 (nI i) μ = X9_dawns_L25 n 142 (nI (i + 1)) μ1 := by
      show X9_dawns_L25B (X9_dawns_L25 n) 142 (nI i) μ = _
      unfold X9_dawns_L25B
      rw [show inb (0 : Int32) 516 = true from by decide, gd_t, s0_le h, hI.s0, if_neg (fun q => absurd ((nI_leq (by omega) (by omega)).mp q) (by omega)), e1, cal_some, bnd_eq, nI_s]
    rw [hst, ← n1]
    exact (ih (i + 1) μ1 (buy1 σ i) n (by omega) (by omega) r1 hI1).go f1
theorem dawn2 : ∀ d i (μ : Mem) (σ : Nat → Int32) n, i + d = nS σ → d < n → μ 143 = σ → Inv σ → PM μ (X9_dawns_L2 n 142 (nI i) μ) 0 (shGo eve1 (nS σ) 0 (shGo buy1 (nS σ) 0 (shGo fillSh d i σ))) := by
  intro d
  induction d with
  | zero =>
    intro i μ σ n hi hn h hI
    have h6 := hI.n6
    obtain ⟨n, rfl⟩ : ∃ m, n = m + 1 := ⟨n - 1, by omega⟩
    have hunf : X9_dawns_L2 (n + 1) 142 (nI i) μ = X9_dawns_L25 FU 142 (nI 0) μ := by
      show X9_dawns_L2B _ 142 (nI i) μ = _
      unfold X9_dawns_L2B
      rw [show inb (0 : Int32) 516 = true from by decide, gd_t, s0_le h, hI.s0, if_pos ((nI_leq (by omega) (by omega)).mpr (by omega))]
      rfl
    rw [hunf]
    exact dawn25 (nS σ) 0 μ σ FU (by omega) (by rw [FU_eq]; omega) h hI
  | succ d ih =>
    intro i μ σ n hi hn h hI
    have h6 := hI.n6
    obtain ⟨n, rfl⟩ : ∃ m, n = m + 1 := ⟨n - 1, by omega⟩
    obtain ⟨μ1, e1, r1, f1⟩ := fillAll9' h hI (k := i) (by omega)
    obtain ⟨hI1, n1, -⟩ := fill_shOk σ i hI (by omega)
    have hst : X9_dawns_L2 (n + 1) 142 (nI i) μ = X9_dawns_L2 n 142 (nI (i + 1)) μ1 := by
      show X9_dawns_L2B (X9_dawns_L2 n) 142 (nI i) μ = _
      unfold X9_dawns_L2B
      rw [show inb (0 : Int32) 516 = true from by decide, gd_t, s0_le h, hI.s0, if_neg (fun q => absurd ((nI_leq (by omega) (by omega)).mp q) (by omega)), e1, cal_some, bnd_eq, nI_s]
    rw [hst, ← n1]
    exact (ih (i + 1) μ1 (fillSh σ i) n (by omega) (by omega) r1 hI1).go f1
theorem dawns9 {μ : Mem} {σ : Nat → Int32} (h : μ 143 = σ) (hI : Inv σ) : PM μ (f_X9_dawns 142 μ) 0 (dawn σ) := by
  have h6 := hI.n6
  exact dawn2 (nS σ) 0 μ σ FU (by omega) (by rw [FU_eq]; omega) h hI
