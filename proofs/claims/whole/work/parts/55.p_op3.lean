/-! PURE 20: sums, images, texts untold, counts -/
theorem Inv.txts {σ σ' : Nat → Int32} (hI : Inv σ) (he : ∀ i, i < 182 ∨ 432 ≤ i → σ' i = σ i) (hT : ∀ u, u < 2 → TextOk u (txt σ' u)) : Inv σ' := by
  have c10 := hI.c10
  have s6 := hI.n6
  have t60 := hI.T60
  obtain ⟨i0, i1, i4, i5, i6, i7, ic, hS, hC, -, hB⟩ := hI
  have n0 : nS σ' = nS σ := by unfold nS; rw [he 0 (by omega)]
  have n1 : nC σ' = nC σ := by unfold nC; rw [he 1 (by omega)]
  have n6 : nT σ' = nT σ := by unfold nT; rw [he 6 (by omega)]
  refine ⟨by rw [he 0 (by omega)]; exact i0, by rw [he 1 (by omega)]; exact i1, by rw [he 4 (by omega)]; exact i4, by rw [he 5 (by omega)]; exact i5, by rw [he 6 (by omega)]; exact i6, by rw [he 7 (by omega)]; exact i7, fun g hg => by rw [he _ (by omega)]; exact ic g hg, fun k hk => ?_, fun c hc => ?_, hT, fun j hj => ?_⟩
  · rw [n0] at hk
    refine ShopOk.mk (fun j hj => ?_)
    rw [he _ (by omega)]
    exact (hS k hk).at hj
  · rw [n1] at hc
    exact (hC c hc).eq (by omega) (fun j h1 h2 => he j (by omega))
  · rw [n6] at hj
    rw [he _ (by omega)]
    exact hB j hj
/-- how many customers, bytes, sales told: all else as it was -/
theorem Inv.cnts {σ σ' : Nat → Int32} (hI : Inv σ) (he : ∀ i, i < 142 ∨ (182 ≤ i ∧ i < 432) → i ≠ 1 → i ≠ 6 → i ≠ 7 → σ' i = σ i) (h1 : rg (σ' 1) 0 10) (h6 : rg (σ' 6) 0 60) (h7 : rg (σ' 7) 0 24) (hC : ∀ c, c < nC σ' → CustOk σ' c) (hB : ∀ i, i < nT σ' → rg (σ' (432 + i)) 0 255) : Inv σ' := by
  have s6 := hI.n6
  obtain ⟨i0, -, i4, i5, -, -, ic, hS, -, hT, -⟩ := hI
  have n0 : nS σ' = nS σ := by unfold nS; rw [he 0 (by omega) (by omega) (by omega) (by omega)]
  refine ⟨by rw [he 0 (by omega) (by omega) (by omega) (by omega)]; exact i0, h1, by rw [he 4 (by omega) (by omega) (by omega) (by omega)]; exact i4, by rw [he 5 (by omega) (by omega) (by omega) (by omega)]; exact i5, h6, h7, fun g hg => by rw [he _ (by omega) (by omega) (by omega) (by omega)]; exact ic g hg, fun k hk => ?_, hC, fun u hu => ?_, hB⟩
  · rw [n0] at hk
    refine ShopOk.mk (fun j hj => ?_)
    rw [he _ (by omega) (by omega) (by omega) (by omega)]
    exact (hS k hk).at hj
  · exact (hT u hu).eq (txt_eq hu (fun j h1 h2 => he j (by omega) (by omega) (by omega) (by omega)))
def sG (f : Nat → Int32) : Nat → Nat → Int32 → Int32
  | 0, _, a => a
  | d + 1, i, a => sG f d (i + 1) (a + f i)
theorem sG_acc (f : Nat → Int32) : ∀ d i a, sG f d i a = a + sG f d i 0 := by
  intro d
  induction d with
  | zero => intro i a; exact (Int32.add_zero a).symm
  | succ d ih =>
    intro i a
    show sG f d (i + 1) (a + f i) = a + sG f d (i + 1) (0 + f i)
    rw [ih (i + 1) (a + f i), ih (i + 1) (0 + f i), Int32.zero_add, Int32.add_assoc]
def thg (σ : Nat → Int32) : Int32 := sG (fun k => sG (stk σ k) 6 0 0) (nS σ) 0 0
def prs (σ : Nat → Int32) : Int32 := sG (fun k => σ (18 + 21 * k)) (nS σ) 0 0
section SUMS
variable {μ : Mem} {w : Nat} {σ : Nat → Int32}
theorem things5 (h : RepW μ w σ) (hI : Inv σ) {k : Nat} (hk : k < nS σ) : f_X5_things (w + 7 + 3 * k) μ = some (sG (stk σ k) 6 0 0, μ) := by
  have key : ∀ d i a n, i + d = 6 → d < n → X5_things_L4 n (w + 7 + 3 * k) a (nI i) μ = some (sG (stk σ k) d i a, μ) := by
    intro d
    induction d with
    | zero =>
      intro i a n hi hn
      obtain ⟨n, rfl⟩ : ∃ m, n = m + 1 := ⟨n - 1, by omega⟩
      show X5_things_L4B _ (w + 7 + 3 * k) a (nI i) μ = _
      unfold X5_things_L4B
      rw [if_pos ((six_le (by omega)).mpr (by omega))]
      rfl
    | succ d ih =>
      intro i a n hi hn
      obtain ⟨n, rfl⟩ : ∃ m, n = m + 1 := ⟨n - 1, by omega⟩
      show X5_things_L4B _ (w + 7 + 3 * k) a (nI i) μ = _
      unfold X5_things_L4B
      rw [if_neg (fun q => absurd ((six_le (by omega)).mp q) (by omega)), inb_nI (by omega) (by omega), gd_t, bnd_eq, bnd_eq, nI_s, clamp_nI (by omega), locC, rd_stock h hI hk (by omega), ih (i + 1) _ n (by omega) (by omega)]
      rfl
  exact key 6 0 0 FU (by omega) (by decide)
theorem things7 (h : RepW μ w σ) (hI : Inv σ) : f_X7_things w μ = some (thg σ, μ) := by
  have h6 := hI.n6
  have key : ∀ d i a n, i + d = nS σ → d < n → X7_things_L4 n w a (nI i) μ = some (sG (fun k => sG (stk σ k) 6 0 0) d i a, μ) := by
    intro d
    induction d with
    | zero =>
      intro i a n hi hn
      obtain ⟨n, rfl⟩ : ∃ m, n = m + 1 := ⟨n - 1, by omega⟩
      show X7_things_L4B _ w a (nI i) μ = _
      unfold X7_things_L4B
      rw [rd_n h, hI.s0, if_pos ((nI_leq (by omega) (by omega)).mpr (by omega))]
      rfl
    | succ d ih =>
      intro i a n hi hn
      obtain ⟨n, rfl⟩ : ∃ m, n = m + 1 := ⟨n - 1, by omega⟩
      show X7_things_L4B _ w a (nI i) μ = _
      unfold X7_things_L4B
      rw [rd_n h, hI.s0, if_neg (fun q => absurd ((nI_leq (by omega) (by omega)).mp q) (by omega)), inb_nI (by omega) (by omega), gd_t, clamp_nI (by omega), locA, things5 h hI (by omega), cal_some, bnd_eq, bnd_eq, nI_s, ih (i + 1) _ n (by omega) (by omega)]
      rfl
  exact key (nS σ) 0 0 FU (by omega) (by rw [FU_eq]; omega)
theorem purses7 (h : RepW μ w σ) (hI : Inv σ) : f_X7_purses w μ = some (prs σ, μ) := by
  have h6 := hI.n6
  have key : ∀ d i a n, i + d = nS σ → d < n → X7_purses_L4 n w a (nI i) μ = some (sG (fun k => σ (18 + 21 * k)) d i a, μ) := by
    intro d
    induction d with
    | zero =>
      intro i a n hi hn
      obtain ⟨n, rfl⟩ : ∃ m, n = m + 1 := ⟨n - 1, by omega⟩
      show X7_purses_L4B _ w a (nI i) μ = _
      unfold X7_purses_L4B
      rw [rd_n h, hI.s0, if_pos ((nI_leq (by omega) (by omega)).mpr (by omega))]
      rfl
    | succ d ih =>
      intro i a n hi hn
      obtain ⟨n, rfl⟩ : ∃ m, n = m + 1 := ⟨n - 1, by omega⟩
      show X7_purses_L4B _ w a (nI i) μ = _
      unfold X7_purses_L4B
      rw [rd_n h, hI.s0, if_neg (fun q => absurd ((nI_leq (by omega) (by omega)).mp q) (by omega)), inb_nI (by omega) (by omega), gd_t, clamp_nI (by omega), locA, rd_purse h hI (by omega), bnd_eq, bnd_eq, nI_s, ih (i + 1) _ n (by omega) (by omega)]
      rfl
  exact key (nS σ) 0 0 FU (by omega) (by rw [FU_eq]; omega)
end SUMS
theorem morn20 {μ : Mem} {σ : Nat → Int32} (h : μ 143 = σ) {k : Nat} (hk : k < 6) (k8 : Nat → Int32 → Int32 → Mem → Res) : ∀ d i a n, i + d = 6 → d < n → X9_morning_L20 k8 n 142 a (nI k) (nI i) μ = k8 142 (sG (stk σ k) d i a) (nI (k + 1)) μ := by
  intro d
  induction d with
  | zero =>
    intro i a n hi hn
    obtain ⟨n, rfl⟩ : ∃ m, n = m + 1 := ⟨n - 1, by omega⟩
    show X9_morning_L20B k8 _ 142 a (nI k) (nI i) μ = _
    unfold X9_morning_L20B
    rw [if_pos ((six_le (by omega)).mpr (by omega)), bnd_eq, nI_s]
    rfl
  | succ d ih =>
    intro i a n hi hn
    obtain ⟨n, rfl⟩ : ∃ m, n = m + 1 := ⟨n - 1, by omega⟩
    show X9_morning_L20B k8 _ 142 a (nI k) (nI i) μ = _
    unfold X9_morning_L20B
    rw [if_neg (fun q => absurd ((six_le (by omega)).mp q) (by omega)), its9_s hk (by omega), cal_some, bnd_eq, bnd_eq, nI_s, ih (i + 1) _ n (by omega) (by omega), h]
    rfl
theorem morn8 {μ : Mem} {σ : Nat → Int32} (h : μ 143 = σ) (hI : Inv σ) : ∀ d i a n, i + d = nS σ → d < n → X9_morning_L8 n 142 a (nI i) μ = some (sG (fun k => sG (stk σ k) 6 0 0) d i a, μ) := by
  have h6 := hI.n6
  intro d
  induction d with
  | zero =>
    intro i a n hi hn
    obtain ⟨n, rfl⟩ : ∃ m, n = m + 1 := ⟨n - 1, by omega⟩
    show X9_morning_L8B _ 142 a (nI i) μ = _
    unfold X9_morning_L8B
    rw [show inb (0 : Int32) 516 = true from by decide, gd_t, s0_le h, hI.s0, if_pos ((nI_leq (by omega) (by omega)).mpr (by omega))]
    rfl
  | succ d ih =>
    intro i a n hi hn
    obtain ⟨n, rfl⟩ : ∃ m, n = m + 1 := ⟨n - 1, by omega⟩
    have e := morn20 h (k := i) (by omega) (X9_morning_L8 n) 6 0 a FU (by omega) (by decide)
    have hu : X9_morning_L8 (n + 1) 142 a (nI i) μ = X9_morning_L8 n 142 (sG (stk σ i) 6 0 a) (nI (i + 1)) μ := by
      show X9_morning_L8B _ 142 a (nI i) μ = _
      unfold X9_morning_L8B
      rw [show inb (0 : Int32) 516 = true from by decide, gd_t, s0_le h, hI.s0, if_neg (fun q => absurd ((nI_leq (by omega) (by omega)).mp q) (by omega))]
      exact e
    rw [hu, ih (i + 1) _ n (by omega) (by omega), sG_acc (stk σ i) 6 0 a]
    rfl
section OPS3
variable {μ : Mem}
theorem sim_morning (h : Rel μ) : Sm (f_X8_morning 0 μ) (f_X9_morning 142) := by
  obtain ⟨h1, h2, h3⟩ := id h
  obtain ⟨μ1, a1, r1, f1⟩ := passMorning7 h1 h2
  have hm := f1.c1 143 (by omega)
  obtain ⟨μ2, a2, r2, f2⟩ := dawns9 hm h2
  have k1 := dawn_kp h2
  have h6 := k1.1.n6
  have hX : f_X8_morning 0 μ = some (thg (dawn (μ 143)), μ1) := by
    unfold f_X8_morning
    rw [Nat.zero_add, a1, cal_some, things7 r1 k1.1, cal_some]
  refine Sm.mk h hX r1 f1.c1 k1.1 ⟨μ2, ?_, r2, f2.m⟩
  unfold f_X9_morning
  rw [a2, cal_some]
  exact morn8 r2 k1.1 (nS (dawn (μ 143))) 0 0 FU (by omega) (by rw [FU_eq]; omega)
theorem sim_told (h : Rel μ) (x : Int32) : Sm (f_X8_told 0 x μ) (f_X9_told 142 x) := by
  obtain ⟨h1, h2, h3⟩ := id h
  by_cases c1 : (1 : Int32) ≤ x ∧ x ≤ 6
  · obtain ⟨k, -, hk, e1⟩ := lit_rg 1 6 rfl rfl (by omega) (by omega) c1
    have hX : f_X8_told 0 x μ = some (μ 146 k, μ) := by
      unfold f_X8_told X8_told_J24
      rw [within_eq, cal_some, b2_t c1, if_neg (by decide), e1, inb_nI (by omega) (by omega), gd_t, clamp_nI (by omega), Nat.zero_add, h3.2.1 k (by omega)]
    refine Sm.mk h hX h1 (FrC.rf _) h2 ⟨μ, ?_, rfl, FrM.rf _⟩
    unfold f_X9_told X9_told_J24
    rw [in_eq, cal_some, b2_t c1, if_neg (by decide), e1, inb_nI (by omega) (by omega), gd_t, clamp_nI (by omega)]
  · refine Sm.er h (k := 1) (by omega) ?_ (fun m e _ => ?_)
    · unfold f_X8_told X8_told_J24
      rw [within_eq, cal_some, b2_f c1, if_pos rfl]
      exact cal_e _
    · unfold f_X9_told X9_told_J24
      rw [in_eq, cal_some, b2_f c1, if_pos rfl]
      exact cal_e _
theorem lve_w7 {σ σ' : Nat → Int32} (h0 : σ' 0 = σ 0) (h1 : σ' 1 = σ 1) (h6 : σ' 6 = σ 6) {j : Nat} (h : lve σ' j) (hj : j < 492) : lve σ j := by
  unfold lve nS nC nT at h ⊢
  rw [h0, h1, h6] at h
  exact ⟨h.1, h.2.1, h.2.2.1, fun a => absurd a (by omega)⟩
theorem sim_leave (h : Rel μ) : Sm (f_X8_leave 0 μ) (f_X9_leave 142) := by
  obtain ⟨h1, h2, h3⟩ := id h
  have h10 := h2.c10
  have hs := h2.s1
  by_cases c1 : nC (μ 143) = 0
  · rw [c1] at hs
    refine Sm.er h (k := 3) (by omega) ?_ (fun m e _ => ?_)
    · unfold f_X8_leave
      rw [Nat.zero_add, rd_c h1, hs, if_neg (by decide)]
      exact cal_e _
    · unfold f_X9_leave
      rw [show inb (1 : Int32) 516 = true from by decide, gd_t, ix143 e, z1, hs, if_pos (by decide)]
      exact cal_e _
  · have hp : ¬ nI (nC (μ 143)) ≤ 0 := fun q => c1 ((nI_le0 (by omega)).mp q)
    have hc' : nC (upd (μ 143) 1 (nI (nC (μ 143) - 1))) = nC (μ 143) - 1 := by unfold nC; rw [upd_same]; exact clamp_nI (by unfold nC at h10; omega)
    have hX : f_X8_leave 0 μ = some (nI (nC (μ 143) - 1), mset μ 1 6 (nI (nC (μ 143) - 1))) := by
      unfold f_X8_leave
      rw [Nat.zero_add, rd_c h1, hs, if_pos (Int32.not_le.mp hp), bnd_eq, nI_pred1 (by omega), mset_self]
    have hI' : Inv (upd (μ 143) 1 (nI (nC (μ 143) - 1))) := by
      refine h2.cnts (fun i a b c d => upd_ne b) (by rw [upd_same]; exact nI_rg (n := 10) (by omega) (by omega)) (by rw [upd_ne (by omega)]; exact h2.r6) (by rw [upd_ne (by omega)]; exact h2.r7) (fun c hc => ?_) (fun i hi => ?_)
      · rw [hc'] at hc
        exact (h2.cust c (by omega)).eq (by omega) (fun i a b => upd_ne (by omega))
      · unfold nT at hi
        rw [upd_ne (by omega)] at hi ⊢
        exact h2.tape i hi
    refine Sm.mk h hX (σ' := upd (μ 143) 1 (nI (nC (μ 143) - 1))) ⟨?_, h1.2.1.wr h2.n6 (i := 1) (p := (0, 6)) rfl (by omega) _, h1.2.2.wr h2.t60 (i := 1) (p := (0, 6)) rfl _⟩ (FrW.m0 (w := 1)).c1 hI' ?_
    · refine (h1.1.wr (i := 1) (p := (0, 6)) rfl _).mono (fun j hj => Or.inl ?_)
      unfold lve at hj ⊢
      rw [hc'] at hj
      unfold nS nT nW at hj ⊢
      rw [upd_ne (by omega), upd_ne (by omega), upd_ne (by omega)] at hj
      exact ⟨hj.1, fun a b => by have := hj.2.1 a b; omega, hj.2.2.1, hj.2.2.2⟩
    · have hm : mset μ 1 6 (nI (nC (μ 143) - 1)) 143 = μ 143 := mset_row (by omega)
      refine ⟨sR (mset μ 1 6 (nI (nC (μ 143) - 1))) 143 (upd (μ 143) 1 (nI (nC (μ 143) - 1))), ?_, sR_same _ _ _, FrM.s143 _ _⟩
      unfold f_X9_leave
      rw [show inb (1 : Int32) 516 = true from by decide, gd_t, ix143 hm, z1, hs, if_neg (fun q => hp (by rw [q]; decide)), gd_t, gd_t, bnd_eq, gd_t, nI_pred1 (by omega), show (142 + 1 : Nat) = 143 from rfl, mset_self, mset_sR _ 143, hm]
theorem sim_tell (h : Rel μ) (x : Int32) : Sm (f_X8_tell 0 x μ) (f_X9_tell 142 x) := by
  obtain ⟨h1, h2, h3⟩ := id h
  have h24 := h2.w24
  have hs := h2.s7
  have e7 : (7 : Int32).toNatClampNeg = 7 := by decide
  by_cases c1 : nW (μ 143) = 24
  · rw [c1] at hs
    refine Sm.er h (k := 4) (by omega) ?_ (fun m e _ => ?_)
    · unfold f_X8_tell
      rw [Nat.zero_add, rd_waits h1, hs, if_neg (by decide)]
      exact cal_e _
    · unfold f_X9_tell
      rw [show inb (7 : Int32) 516 = true from by decide, gd_t, ix143 e, e7, hs, if_pos (by decide)]
      exact cal_e _
  · generalize hn : nW (μ 143) = n at *
    have hlt : nI n < 24 := (nI_ltI (b := 24) (by omega) (by omega)).mpr (by omega)
    have hw' : nW (upd (upd (μ 143) (492 + n) x) 7 (nI (n + 1))) = n + 1 := by unfold nW; rw [upd_same]; exact clamp_nI (by omega)
    have hX : f_X8_tell 0 x μ = some (nI (n + 1), mset (mset μ (1 + 6) n x) 1 14 (nI (n + 1))) := by
      unfold f_X8_tell
      rw [Nat.zero_add, rd_waits h1, hs, if_pos hlt, inb_nI (by omega) (by omega), gd_t, bnd_eq, bnd_eq, clamp_nI (by omega), show mset μ (1 + 6) n x 1 14 = nI n from by rw [mset_row (by omega), rd_waits h1, hs], nI_s, mset_self]
    have hI' : Inv (upd (upd (μ 143) (492 + n) x) 7 (nI (n + 1))) := by
      refine h2.cnts (fun i a b c d => by rw [upd_ne d, upd_ne (by omega)]) (by rw [upd_ne (by omega), upd_ne (by omega)]; exact h2.2.1) (by rw [upd_ne (by omega), upd_ne (by omega)]; exact h2.r6) (by rw [upd_same]; exact nI_rg (n := 24) (by omega) (by omega)) (fun c hc => ?_) (fun i hi => ?_)
      · have h10 := h2.c10
        unfold nC at hc
        rw [upd_ne (by omega), upd_ne (by omega)] at hc
        have hc2 : c < nC (μ 143) := hc
        exact (h2.cust c hc2).eq (by omega) (fun i a b => by rw [upd_ne (by omega), upd_ne (by omega)])
      · have h60 := h2.T60
        unfold nT at hi
        rw [upd_ne (by omega), upd_ne (by omega)] at hi
        have hi2 : i < nT (μ 143) := hi
        rw [upd_ne (by omega), upd_ne (by omega)]
        exact h2.tape i hi2
    have am1 := am_wait n (by omega)
    have t1 := h1.2.2.wr h2.t60 am1 x
    have t60' : ∀ u, u < 2 → (upd (μ 143) (492 + n) x (182 + 125 * u)).toNatClampNeg ≤ 60 := fun u hu => by rw [upd_ne (by omega)]; exact h2.t60 u hu
    have d1 := h1.2.1.wr h2.n6 am1 (by omega) x
    have n6' : nS (upd (μ 143) (492 + n) x) ≤ 6 := by unfold nS; rw [upd_ne (by omega)]; exact h2.n6
    refine Sm.mk h hX (σ' := upd (upd (μ 143) (492 + n) x) 7 (nI (n + 1))) ⟨?_, d1.wr n6' (i := 7) (p := (0, 14)) rfl (by omega) _, t1.wr t60' (i := 7) (p := (0, 14)) rfl _⟩ ((FrW.ms (w := 1) (a := 6) (by omega)).tr (FrW.m0 (w := 1))).c1 hI' ?_
    · refine ((h1.1.wr am1 x).wr (i := 7) (p := (0, 14)) rfl _).mono (fun j hj => ?_)
      unfold lve at hj
      rw [hw'] at hj
      unfold nS nC nT at hj
      rw [upd_ne (by omega), upd_ne (by omega), upd_ne (by omega), upd_ne (by omega), upd_ne (by omega), upd_ne (by omega)] at hj
      by_cases q : j = 492 + n
      · exact Or.inl (Or.inr q)
      · refine Or.inl (Or.inl ⟨hj.1, hj.2.1, hj.2.2.1, fun a => ?_⟩)
        have := hj.2.2.2 a
        rw [hn]
        omega
    · generalize hm1 : mset (mset μ (1 + 6) n x) 1 14 (nI (n + 1)) = m1
      have hm : m1 143 = μ 143 := by rw [← hm1, mset_row (by omega), mset_row (by omega)]
      refine ⟨sR m1 143 (upd (upd (μ 143) (492 + n) x) 7 (nI (n + 1))), ?_, sR_same _ _ _, FrM.s143 _ _⟩
      have hix : (492 : Int32) + nI n = nI (492 + n) := by
        show nI 492 + nI n = _
        rw [nI_add]
      unfold f_X9_tell
      rw [show inb (7 : Int32) 516 = true from by decide, gd_t, ix143 hm, e7, hs, if_neg (fun q => absurd (q ▸ hlt) (by decide)), gd_t, hix, inb_nI (by omega) (by omega), gd_t, bnd_eq, gd_t, gd_t, bnd_eq, gd_t, clamp_nI (by omega), show (142 + 1 : Nat) = 143 from rfl]
      rw [show mset m1 143 (492 + n) x 143 7 = nI n from by rw [mset_ne (by omega), hm, hs], nI_s, mset_self, mset_sR m1, mset_sR, sR_sR, sR_same, hm]
theorem sub11 {x : Int32} : ((0 : Int32) ≤ x - 11 ∧ x - 11 ≤ 5) ↔ ((11 : Int32) ≤ x ∧ x ≤ 16) := by
  constructor
  · intro q
    obtain ⟨j, -, hj, e⟩ := lit_rg 0 5 rfl rfl (by omega) (by omega) q
    have e2 : x = nI (j + 11) := by
      have : x - 11 + 11 = nI j + nI 11 := by rw [e]; rfl
      rw [Int32.sub_add_cancel, nI_add] at this
      exact this
    rw [e2]
    exact ⟨(lit_le (x := 11) 11 rfl (by omega) (by omega)).mpr (by omega), nI_leI (b := 16) (by omega) (by omega) |>.mpr (by omega)⟩
  · intro q
    obtain ⟨j, h1, hj, e⟩ := lit_rg 11 16 rfl rfl (by omega) (by omega) q
    rw [e, nI_sub' (x := 11) (b := 11) rfl h1]
    exact ⟨nI_pos' (by omega), nI_leI (b := 5) (by omega) (by omega) |>.mpr (by omega)⟩
/-- what the model tells behind the sum -/
def cnF (x s : Int32) (m : Mem) : Res := if x = 0 then some (m 143 0, m) else if x = 1 then some (m 143 1, m) else if x = 2 then some (m 143 2, m) else if x = 3 then some (m 143 3, m) else if x = 4 then some (m 143 4, m) else if x = 5 then some (m 143 5, m) else if x = 6 then some (s, m) else if x = 7 then some (m 143 6, m) else if x = 8 then some (m 143 7, m) else if x = 9 then some (m 142 13, m) else if x = 10 then some (m 143 8, m) else if (11 : Int32) ≤ x ∧ x ≤ 16 then some (m 143 (10 + (x - 11).toNatClampNeg), m) else f_X9_error 142 1 m
theorem count4 {m : Mem} {σ : Nat → Int32} (h : m 143 = σ) (hI : Inv σ) (x : Int32) : ∀ d i a n, i + d = nS σ → d < n → X9_count_L4 n 142 x a (nI i) m = cnF x (sG (fun k => σ (18 + 21 * k)) d i a) m := by
  have h6 := hI.n6
  intro d
  induction d with
  | zero =>
    intro i a n hi hn
    obtain ⟨n, rfl⟩ : ∃ m, n = m + 1 := ⟨n - 1, by omega⟩
    show X9_count_L4B _ 142 x a (nI i) m = _
    have h16 : (if b2 ((11 : Int32) ≤ x ∧ x ≤ 16) = 0 then cal (f_X9_error 142 1 m) (fun r14 m15 => X9_count_J192 r14 m15) else gd (inb (((10 : Int32) + x) - 11) 516) (X9_count_J192 (m (142 + 1) (((10 : Int32) + x) - 11).toNatClampNeg) m)) = (if (11 : Int32) ≤ x ∧ x ≤ 16 then some (m 143 (10 + (x - 11).toNatClampNeg), m) else f_X9_error 142 1 m) := by
      unfold X9_count_J192
      by_cases c : (11 : Int32) ≤ x ∧ x ≤ 16
      · obtain ⟨j, h1, hj, e⟩ := lit_rg 11 16 rfl rfl (by omega) (by omega) c
        have e2 : ((10 : Int32) + x) - 11 = nI (10 + (j - 11)) := by
          rw [e]
          show nI 10 + nI j - nI 11 = _
          rw [nI_add, nI_sub (by omega)]
          congr 1
          omega
        have e3 : x - 11 = nI (j - 11) := by rw [e]; exact nI_sub' (x := 11) (b := 11) rfl h1
        rw [b2_t c, if_neg (by decide), if_pos c, e2, e3, inb_nI (by omega) (by omega), gd_t, clamp_nI (by omega), clamp_nI (by omega)]
      · rw [b2_f c, if_pos rfl, if_neg c]
        exact cal_e _
    unfold X9_count_L4B cnF
    rw [show inb (0 : Int32) 516 = true from by decide, gd_t, s0_le h, hI.s0, if_pos ((nI_leq (by omega) (by omega)).mpr (by omega))]
    rw [gd_t, show inb (1 : Int32) 516 = true from by decide, gd_t, show inb (2 : Int32) 516 = true from by decide, gd_t, show inb (3 : Int32) 516 = true from by decide, gd_t, show inb (4 : Int32) 516 = true from by decide, gd_t, show inb (5 : Int32) 516 = true from by decide, gd_t, show inb (6 : Int32) 516 = true from by decide, gd_t, show inb (7 : Int32) 516 = true from by decide, gd_t, show inb (8 : Int32) 516 = true from by decide, gd_t, in_eq, cal_some, h16]
    rw [show m 143 0 = nI (nS σ) from by rw [h]; exact hI.s0, z1, show (2 : Int32).toNatClampNeg = 2 from by decide, show (3 : Int32).toNatClampNeg = 3 from by decide, show (4 : Int32).toNatClampNeg = 4 from by decide, show (5 : Int32).toNatClampNeg = 5 from by decide, show (6 : Int32).toNatClampNeg = 6 from by decide, show (7 : Int32).toNatClampNeg = 7 from by decide, show (8 : Int32).toNatClampNeg = 8 from by decide, show (142 + 1 : Nat) = 143 from rfl]
    rfl
  | succ d ih =>
    intro i a n hi hn
    obtain ⟨n, rfl⟩ : ∃ m, n = m + 1 := ⟨n - 1, by omega⟩
    have hu : X9_count_L4 (n + 1) 142 x a (nI i) m = X9_count_L4 n 142 x (a + σ (18 + 21 * i)) (nI (i + 1)) m := by
      show X9_count_L4B _ 142 x a (nI i) m = _
      unfold X9_count_L4B
      rw [show inb (0 : Int32) 516 = true from by decide, gd_t, s0_le h, hI.s0, if_neg (fun q => absurd ((nI_leq (by omega) (by omega)).mp q) (by omega)), its9_2 (by omega), cal_some, bnd_eq, bnd_eq, nI_s, h]
    rw [hu, ih (i + 1) _ n (by omega) (by omega)]
    rfl
end OPS3
