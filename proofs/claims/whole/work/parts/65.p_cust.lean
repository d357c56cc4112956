/-! PURE 30: customers out of a sheet, sales judged, sales told checked -/
section
theorem mu_3 (i : Nat) : (3 : Int32) * nI i = nI (3 * i) := nI_mul 3 i
theorem mu_2 (i : Nat) : (2 : Int32) * nI i = nI (2 * i) := nI_mul 2 i
theorem mu_24 (i : Nat) : (24 : Int32) * nI i = nI (24 * i) := nI_mul 24 i
theorem lt_lit {x : Int32} (a : Nat) (hx : x = nI a) {i : Nat} (ha : a < 2 ^ 31) (hi : i < 2 ^ 31) : (nI i < x) ↔ i < a := by
  rw [hx]
  exact nI_ltI hi ha
theorem ad_2 (i : Nat) : nI i + 2 = nI (i + 2) := nI_add i 2
theorem refuse8 {μ : Mem} (h : Rel μ) {k : Nat} (hk : k < 4) : f_X8_sheetRefusal 0 (nI k) μ = some (if μ 151 k = 0 then 2 else 0, μ) := by
  obtain ⟨s1, -⟩ := ShOk.at h hk
  have c1 : (0 : Int32) ≤ nI k ∧ nI k ≤ 3 := ⟨nI_pos' (by omega), nI_leI (b := 3) (by omega) (by omega) |>.mpr (by omega)⟩
  unfold f_X8_sheetRefusal X8_sheetRefusal_J26
  simp only [Nat.zero_add]
  rw [isSheet8, cal_some, b2_t c1, if_neg (by decide), inb_nI hk (by omega), gd_t, clamp_nI (by omega), locS, missing4, cal_some, s1]
  by_cases q : μ 151 k = 0
  · rw [b2_t q, if_neg (by decide), if_pos q]
  · rw [b2_f q, if_pos rfl, if_neg q]
theorem refuse9 {μ m : Mem} (e : m 151 = μ 151) {k : Nat} (hk : k < 4) : f_X9_lacks 142 (nI k) m = some (if μ 151 k = 0 then 2 else 0, m) := by
  have c1 : (0 : Int32) ≤ nI k ∧ nI k ≤ 3 := ⟨nI_pos' (by omega), nI_leI (b := 3) (by omega) (by omega) |>.mpr (by omega)⟩
  unfold f_X9_lacks X9_lacks_J25
  rw [isSheet9, cal_some, b2_t c1, if_neg (by decide), inb_nI hk (by omega), gd_t, clamp_nI (by omega), show (142 + 9 : Nat) = 151 from rfl, e]
  by_cases q : μ 151 k = 0
  · rw [if_pos q, if_pos q]
  · rw [if_neg q, if_neg q]
theorem refuseN8 {x : Int32} (c1 : ¬ ((0 : Int32) ≤ x ∧ x ≤ 3)) (μ : Mem) : f_X8_sheetRefusal 0 x μ = some (1, μ) := by
  unfold f_X8_sheetRefusal
  rw [isSheet8, cal_some, b2_f c1, if_pos rfl]
theorem refuseN9 {x : Int32} (c1 : ¬ ((0 : Int32) ≤ x ∧ x ≤ 3)) (μ : Mem) : f_X9_lacks 142 x μ = some (1, μ) := by
  unfold f_X9_lacks X9_lacks_J25
  rw [isSheet9, cal_some, b2_f c1, if_pos rfl]
theorem cust_go {k p : Nat} (hk : k < 4) (hp : p ≤ 24) {f : Nat → Int32} : ∀ d i (μ : Mem) (σ : Nat → Int32) n, i + d = p / 3 → d < n → RepW μ 1 σ → Inv σ → (∀ j, j < 24 → μ (135 + 2 * k) j = f j) → ∃ r σ' μ', X8_customers_L42 n 0 (135 + 2 * k) (nI (p / 3)) (nI i) μ = some (r, μ') ∧ RepW μ' 1 σ' ∧ Inv σ' ∧ FrW 1 μ μ' ∧ ∀ m : Mem, m 143 = σ → m 152 k = nI p → (∀ j, j < 24 → m 153 (24 * k + j) = f j) → X9_customers_L24 n 142 (nI k) (nI i) (nI (24 * k)) m = some (r, sR m 143 σ') := by
  intro d
  induction d with
  | zero =>
    intro i μ σ n hi hn h hI hf
    obtain ⟨n, rfl⟩ : ∃ m, n = m + 1 := ⟨n - 1, by omega⟩
    have hi : i = p / 3 := by omega
    refine ⟨nI i, σ, μ, ?_, h, hI, FrW.rf _ _, fun m e1 e2 e3 => ?_⟩
    · show X8_customers_L42B _ 0 (135 + 2 * k) (nI (p / 3)) (nI i) μ = _
      unfold X8_customers_L42B
      rw [if_pos ((nI_leq (by omega) (by omega)).mpr (by omega)), hi]
    · show X9_customers_L24B _ 142 (nI k) (nI i) (nI (24 * k)) m = _
      unfold X9_customers_L24B X9_customers_J139
      rw [inb_nI hk (by omega), gd_t, clamp_nI (by omega), show (142 + 10 : Nat) = 152 from rfl, e2, mu_3, ad_2, if_pos ((nI_leq (by omega) (by omega)).mpr (by omega)), ← e1, sR_id]
  | succ d ih =>
    intro i μ σ n hi hn h hI hf
    obtain ⟨n, rfl⟩ : ∃ m, n = m + 1 := ⟨n - 1, by omega⟩
    have h10 := hI.c10
    have hi3 : 3 * i + 2 < p := by omega
    have hx : X8_customers_L42 (n + 1) 0 (135 + 2 * k) (nI (p / 3)) (nI i) μ = cal (f_X8_isCustomer (f (3 * i)) (f (3 * i + 1)) (f (3 * i + 2)) μ) (fun r1 m2 => (if r1 = 0 then X8_customers_J93 (nI i) m2 else (if m2 1 6 < 10 then cal (f_X7_welcome 1 (m2 (135 + 2 * k) (3 * i)) (m2 (135 + 2 * k) (3 * i + 1)) (m2 (135 + 2 * k) (3 * i + 2)) m2) (fun r3 m4 => X8_customers_L42 n 0 (135 + 2 * k) (nI (p / 3)) (nI (i + 1)) m4) else X8_customers_J93 (nI i) m2))) := by
      show X8_customers_L42B _ 0 (135 + 2 * k) (nI (p / 3)) (nI i) μ = _
      unfold X8_customers_L42B
      simp only [Nat.zero_add]
      rw [if_neg (fun q => absurd ((nI_leq (by omega) (by omega)).mp q) (by omega))]
      simp only [mu_3, nI_s, ad_2, inb_nI (show 3 * i < 24 by omega) (by omega), inb_nI (show 3 * i + 1 < 24 by omega) (by omega), inb_nI (show 3 * i + 2 < 24 by omega) (by omega), gd_t, clamp_nI (show 3 * i < 2 ^ 31 by omega), clamp_nI (show 3 * i + 1 < 2 ^ 31 by omega), clamp_nI (show 3 * i + 2 < 2 ^ 31 by omega), bnd_eq]
      rw [hf _ (by omega), hf _ (by omega), hf _ (by omega)]
    have hy : ∀ m : Mem, m 143 = σ → m 152 k = nI p → (∀ j, j < 24 → m 153 (24 * k + j) = f j) → X9_customers_L24 (n + 1) 142 (nI k) (nI i) (nI (24 * k)) m = (if (10 : Int32) ≤ nI (nC σ) then some (nI i, m) else cal (f_X9_isCustomer1 (f (3 * i)) (f (3 * i + 1)) (f (3 * i + 2)) m) (fun r1 m2 => (if r1 = 0 then some (nI i, m2) else cal (f_X9_addCustomer 142 (m2 153 (24 * k + 3 * i)) (m2 153 (24 * k + 3 * i + 1)) (m2 153 (24 * k + 3 * i + 2)) m2) (fun r3 m4 => X9_customers_L24 n 142 (nI k) (nI (i + 1)) (nI (24 * k)) m4)))) := by
      intro m e1 e2 e3
      show X9_customers_L24B _ 142 (nI k) (nI i) (nI (24 * k)) m = _
      unfold X9_customers_L24B X9_customers_J139
      rw [inb_nI hk (by omega), gd_t, clamp_nI (by omega), show (142 + 10 : Nat) = 152 from rfl, e2, mu_3, ad_2, if_neg (fun q => absurd ((nI_leq (by omega) (by omega)).mp q) (by omega)), show inb (1 : Int32) 516 = true from by decide, gd_t, ix143 e1, z1, hI.s1]
      simp only [nI_add, nI_s, ad_2, inb_nI (show 24 * k + 3 * i < 96 by omega) (by omega), inb_nI (show 24 * k + 3 * i + 1 < 96 by omega) (by omega), inb_nI (show 24 * k + 3 * i + 2 < 96 by omega) (by omega), gd_t, clamp_nI (show 24 * k + 3 * i < 2 ^ 31 by omega), clamp_nI (show 24 * k + 3 * i + 1 < 2 ^ 31 by omega), clamp_nI (show 24 * k + 3 * i + 2 < 2 ^ 31 by omega), bnd_eq, show (142 + 11 : Nat) = 153 from rfl]
      have g0 := e3 (3 * i) (by omega)
      have g1 := e3 (3 * i + 1) (by omega)
      have g2 := e3 (3 * i + 2) (by omega)
      rw [← Nat.add_assoc] at g1 g2
      rw [g0, g1, g2]
    by_cases hc : cst (f (3 * i)) (f (3 * i + 1)) (f (3 * i + 2))
    · by_cases hn10 : nC σ < 10
      · obtain ⟨μ1, a1, r1, f1⟩ := welcome7 h hI (f (3 * i)) (f (3 * i + 1)) (f (3 * i + 2)) hn10
        obtain ⟨r, σ', μ', b1, b2, b3, b4, b5⟩ := ih (i + 1) μ1 _ n (by omega) (by omega) r1 (wlc_inv hI hn10 hc) (fun j hj => by rw [f1 _ (by omega)]; exact hf j hj)
        refine ⟨r, σ', μ', ?_, b2, b3, f1.tr b4, fun m e1 e2 e3 => ?_⟩
        · rw [hx, cst8 μ hc, cal_some, if_neg (by decide), rd_c h, hI.s1, if_pos ((lt_lit (x := 10) 10 rfl (by omega) (by omega)).mpr hn10), hf _ (by omega), hf _ (by omega), hf _ (by omega), a1, cal_some]
          exact b1
        · have g0 := e3 (3 * i) (by omega)
          have g1 := e3 (3 * i + 1) (by omega)
          have g2 := e3 (3 * i + 2) (by omega)
          rw [← Nat.add_assoc] at g1 g2
          rw [hy m e1 e2 e3, if_neg (fun q => absurd ((lit_le (x := 10) 10 rfl (by omega) (by omega)).mp q) (by omega)), cst9 m hc, cal_some, if_neg (by decide), g0, g1, g2, add9 e1 hI _ _ _ hn10, cal_some]
          have := b5 (sR m 143 (wlc σ (f (3 * i)) (f (3 * i + 1)) (f (3 * i + 2)))) (sR_same _ _ _) (by rw [sR_ne (by omega)]; exact e2) (fun j hj => by rw [sR_ne (by omega)]; exact e3 j hj)
          rw [this, sR_sR]
      · refine ⟨nI i, σ, μ, ?_, h, hI, FrW.rf _ _, fun m e1 e2 e3 => ?_⟩
        · rw [hx, cst8 μ hc, cal_some, if_neg (by decide), rd_c h, hI.s1, if_neg (fun q => absurd ((lt_lit (x := 10) 10 rfl (by omega) (by omega : nC σ < 2 ^ 31)).mp q) (by omega))]
          rfl
        · rw [hy m e1 e2 e3, if_pos ((lit_le (x := 10) 10 rfl (by omega) (by omega)).mpr (by omega)), ← e1, sR_id]
    · refine ⟨nI i, σ, μ, ?_, h, hI, FrW.rf _ _, fun m e1 e2 e3 => ?_⟩
      · rw [hx, ncst8 μ hc, cal_some, if_pos rfl]
        rfl
      · rw [hy m e1 e2 e3, ncst9 m hc, cal_some, if_pos rfl, ite_self, ← e1, sR_id]
theorem div_p : ∀ p, p ≤ 24 → nI p / 3 = nI (p / 3) ∧ nI p / 2 = nI (p / 2) := by decide +kernel
theorem sim_customers {μ : Mem} (h : Rel μ) (x : Int32) : Sm (f_X8_customers 0 x μ) (f_X9_customers 142 x) := by
  obtain ⟨h1, h2, h3⟩ := id h
  by_cases c1 : (0 : Int32) ≤ x ∧ x ≤ 3
  · obtain ⟨k, -, hk, e1⟩ := lit_rg 0 3 rfl rfl (by omega) (by omega) c1
    obtain ⟨s1, s2, s3, s4, s5⟩ := ShOk.at h (i := k) (by omega)
    obtain ⟨p1, p2⟩ := rg_clamp (n := 24) s4 (by omega)
    subst e1
    by_cases q : μ 151 k = 0
    · refine Sm.er h (k := 2) (by omega) ?_ (fun m e f => ?_)
      · unfold f_X8_customers
        rw [refuse8 h (by omega), cal_some, if_pos q, if_neg (by decide)]
        exact cal_e _
      · unfold f_X9_customers
        rw [refuse9 (μ := μ) (er_at f (Or.inl (by unfold oc; omega)) (by omega)) (by omega), cal_some, if_pos q, if_neg (by decide)]
        exact cal_e _
    · obtain ⟨r, σ', μ', b1, b2, b3, b4, b5⟩ := cust_go (k := k) (by omega) p1 (f := μ (135 + 2 * k)) ((μ 152 k).toNatClampNeg / 3) 0 μ _ FU (by omega) (by rw [FU_eq]; omega) h1 h2 (fun _ _ => rfl)
      have hX : f_X8_customers 0 (nI k) μ = some (r, μ') := by
        unfold f_X8_customers
        simp only [Nat.zero_add]
        rw [refuse8 h (by omega), cal_some, if_neg q, if_pos rfl, inb_nI (by omega) (by omega), gd_t, gd_t, gd_nz (by decide), bnd_eq, clamp_nI (by omega), locS, locT, s2, p2, (div_p _ p1).1]
        exact b1
      refine Sm.mk h hX b2 b4.c1 b3 ⟨sR μ' 143 σ', ?_, sR_same _ _ _, FrM.s143 _ _⟩
      unfold f_X9_customers
      rw [refuse9 (μ := μ) (b4 151 (by omega)) (by omega), cal_some, if_neg q, if_pos (by decide), bnd_eq, mu_24]
      exact b5 μ' (b4 143 (by omega)) (by rw [b4 152 (by omega)]; exact p2) (fun j hj => by rw [b4 153 (by omega), ← s5 j hj])
  · refine Sm.er h (k := 1) (by omega) ?_ (fun m e _ => ?_)
    · unfold f_X8_customers
      rw [refuseN8 c1, cal_some, if_neg (by decide)]
      exact cal_e _
    · unfold f_X9_customers
      rw [refuseN9 c1, cal_some, if_neg (by decide)]
      exact cal_e _
theorem judge_end {σ0 : Nat → Int32} {m : Mem} (hp : Put m σ0) (h : ∀ j, 516 ≤ j → m 143 j = σ0 j) (r : Int32) : X9_judge_J153 142 r m = some (r, sR m 143 σ0) := by
  unfold X9_judge_J153
  rw [carryB hp h, cal_some]
theorem judge_go {k p : Nat} (hk : k < 4) (hp : p ≤ 24) {f σ0 : Nat → Int32} : ∀ d i (μ : Mem) (σ : Nat → Int32) n, i + d = p / 2 → d < n → RepW μ 83 σ → Inv σ → (∀ j, j < 24 → μ (135 + 2 * k) j = f j) → (∀ j, 516 ≤ j → σ j = σ0 j) → ∃ r μ', X8_judge_L53 n 0 (135 + 2 * k) (nI (p / 2)) (nI i) μ = some (r, μ') ∧ FrW 83 μ μ' ∧ ∀ (m : Mem) n', d + 2 < n' → m 143 = σ → Put m σ0 → m 152 k = nI p → (∀ j, j < 24 → m 153 (24 * k + j) = f j) → ∃ m', X9_judge_L32 n' 142 (nI k) (nI i) 1 m = some (r, m') ∧ m' 143 = σ0 ∧ FrT m m' := by
  intro d
  induction d with
  | zero =>
    intro i μ σ n hi hn h hI hf ho
    obtain ⟨n, rfl⟩ : ∃ m, n = m + 1 := ⟨n - 1, by omega⟩
    have hi : i = p / 2 := by omega
    refine ⟨nI i, μ, ?_, FrW.rf _ _, fun m n' hn' e1 hP e2 e3 => ⟨sR m 143 σ0, ?_, sR_same _ _ _, FrT.s _ _⟩⟩
    · show X8_judge_L53B _ 0 (135 + 2 * k) (nI (p / 2)) (nI i) μ = _
      unfold X8_judge_L53B
      rw [if_pos ((nI_leq (by omega) (by omega)).mpr (by omega)), hi]
    · obtain ⟨n', rfl⟩ : ∃ m, n' = m + 1 := ⟨n' - 1, by omega⟩
      show X9_judge_L32B _ 142 (nI k) (nI i) 1 m = _
      unfold X9_judge_L32B
      rw [if_neg (by decide), inb_nI hk (by omega), gd_t, clamp_nI (by omega), show (142 + 10 : Nat) = 152 from rfl, e2, mu_2, nI_s, if_pos ((nI_leq (by omega) (by omega)).mpr (by omega))]
      exact judge_end hP (by rw [e1]; exact ho) _
  | succ d ih =>
    intro i μ σ n hi hn h hI hf ho
    obtain ⟨n, rfl⟩ : ∃ m, n = m + 1 := ⟨n - 1, by omega⟩
    have h6 := hI.n6
    have hi2 : 2 * i + 1 < p := by omega
    have hx : X8_judge_L53 (n + 1) 0 (135 + 2 * k) (nI (p / 2)) (nI i) μ = cal (f_X7_hasShop 83 (f (2 * i)) μ) (fun r3 m4 => (if r3 = 0 then X8_judge_J112 (nI i) m4 else cal (f_X8_isGood (f (2 * i + 1)) m4) (fun r5 m6 => (if r5 = 0 then X8_judge_J112 (nI i) m6 else cal (f_X7_maySell 83 (f (2 * i)) (f (2 * i + 1)) m6) (fun r7 m8 => (if r7 = 0 then X8_judge_J112 (nI i) m8 else gd (inb (f (2 * i)) 6) (gd (inb (f (2 * i + 1)) 6) (gd (inb (f (2 * i + 1)) 6) (X8_judge_L53 n 0 (135 + 2 * k) (nI (p / 2)) (nI (i + 1)) (mset m8 (83 + 2 + 5 + 3 * (f (2 * i)).toNatClampNeg + 2) (f (2 * i + 1)).toNatClampNeg (m8 (83 + 2 + 5 + 3 * (f (2 * i)).toNatClampNeg + 2) (f (2 * i + 1)).toNatClampNeg - 1))))))))))) := by
      show X8_judge_L53B _ 0 (135 + 2 * k) (nI (p / 2)) (nI i) μ = _
      unfold X8_judge_L53B
      simp only [Nat.zero_add]
      rw [if_neg (fun q => absurd ((nI_leq (by omega) (by omega)).mp q) (by omega))]
      simp only [mu_2, nI_s, inb_nI (show 2 * i < 24 by omega) (by omega), inb_nI (show 2 * i + 1 < 24 by omega) (by omega), gd_t, clamp_nI (show 2 * i < 2 ^ 31 by omega), clamp_nI (show 2 * i + 1 < 2 ^ 31 by omega), bnd_eq]
      rw [hf _ (by omega), hf _ (by omega)]
    have hy : ∀ (m : Mem) n', m 143 = σ → m 152 k = nI p → (∀ j, j < 24 → m 153 (24 * k + j) = f j) → X9_judge_L32 (n' + 1) 142 (nI k) (nI i) 1 m = cal (f_X9_isShop 142 (f (2 * i)) m) (fun r3 m4 => (if r3 = 0 then X9_judge_J115 (X9_judge_L32 n') 142 (nI k) (nI i) (f (2 * i)) (f (2 * i + 1)) m4 else cal (f_X9_isGood (f (2 * i + 1)) m4) (fun r5 m6 => (if r5 = 0 then X9_judge_J115 (X9_judge_L32 n') 142 (nI k) (nI i) (f (2 * i)) (f (2 * i + 1)) m6 else cal (f_X9_may 142 (f (2 * i)) (f (2 * i + 1)) m6) (fun r7 m8 => (if r7 = 0 then X9_judge_J115 (X9_judge_L32 n') 142 (nI k) (nI i) (f (2 * i)) (f (2 * i + 1)) m8 else X9_judge_J116 (X9_judge_L32 n') 142 (nI k) (nI i) (f (2 * i)) (f (2 * i + 1)) 1 m8)))))) := by
      intro m n' e1 e2 e3
      show X9_judge_L32B _ 142 (nI k) (nI i) 1 m = _
      unfold X9_judge_L32B
      rw [if_neg (by decide), inb_nI hk (by omega), gd_t, clamp_nI (by omega), show (142 + 10 : Nat) = 152 from rfl, e2, mu_2, nI_s, if_neg (fun q => absurd ((nI_leq (by omega) (by omega)).mp q) (by omega))]
      have g0 := e3 (2 * i) (by omega)
      have g1 := e3 (2 * i + 1) (by omega)
      rw [← Nat.add_assoc] at g1
      rw [mu_24, nI_add, nI_s, inb_nI (show 24 * k + 2 * i < 96 by omega) (by omega), gd_t, inb_nI (show 24 * k + 2 * i + 1 < 96 by omega) (by omega), bnd_eq, gd_t, bnd_eq, clamp_nI (show 24 * k + 2 * i < 2 ^ 31 by omega), clamp_nI (show 24 * k + 2 * i + 1 < 2 ^ 31 by omega), show (142 + 11 : Nat) = 153 from rfl, g0, g1]
    have hno : ∀ (m : Mem) n', d + 2 < n' → m 143 = σ → Put m σ0 → ∃ m', X9_judge_J115 (X9_judge_L32 n') 142 (nI k) (nI i) (f (2 * i)) (f (2 * i + 1)) m = some (nI i, m') ∧ m' 143 = σ0 ∧ FrT m m' := by
      intro m n' hn' e1 hP
      obtain ⟨n', rfl⟩ : ∃ m, n' = m + 1 := ⟨n' - 1, by omega⟩
      refine ⟨sR m 143 σ0, ?_, sR_same _ _ _, FrT.s _ _⟩
      unfold X9_judge_J115 X9_judge_J116 X9_judge_J150
      rw [if_pos rfl]
      show X9_judge_L32B _ 142 (nI k) (nI i) 0 m = _
      unfold X9_judge_L32B
      rw [if_pos rfl]
      exact judge_end hP (by rw [e1]; exact ho) _
    by_cases c1 : (0 : Int32) ≤ f (2 * i) ∧ f (2 * i) ≤ σ 0 - 1
    · by_cases c2 : (0 : Int32) ≤ f (2 * i + 1) ∧ f (2 * i + 1) ≤ 5
      · obtain ⟨s, hs, e4⟩ := hI.sh c1
        obtain ⟨g, -, hg, e5⟩ := lit_rg 0 5 rfl rfl (by omega) (by omega) c2
        by_cases c3 : may σ s g = true
        · have hrd := rd_stock h hI hs (show g < 6 by omega)
          have hst : rg (stk σ s g - 1) 0 99 := dec_rg ((hI.shop s hs).2.2.2.2 g (by omega)) (may_stk c3)
          have hw := wr_stock h hI (k := s) (g := g) (by omega) (by omega) (stk σ s g - 1)
          have hI' : Inv (upd σ (25 + 21 * s + g) (stk σ s g - 1)) := hI.uStock (by omega) (by omega) hst
          have ff : FrW 83 μ (mset μ (83 + 9 + 3 * s) g (stk σ s g - 1)) := FrW.m9 (by omega)
          obtain ⟨r, μ', b1, b2, b3⟩ := ih (i + 1) _ _ n (by omega) (by omega) hw hI' (fun j hj => by rw [ff _ (by omega)]; exact hf j hj) (fun j hj => by rw [upd_ne (by omega)]; exact ho j hj)
          refine ⟨r, μ', ?_, ff.tr b2, fun m n' hn' e1 hP e2 e3 => ?_⟩
          · rw [hx, hasShop7 h, cal_some, b2_t c1, if_neg (by decide), isGood8, cal_some, b2_t c2, if_neg (by decide), e4, e5, maySell7 h hI hs (by omega), cal_some, b2_t c3, if_neg (by decide), inb_nI (by omega) (by omega), gd_t, inb_nI (by omega) (by omega), gd_t, gd_t, clamp_nI (by omega), clamp_nI (by omega), locA, locC, hrd]
            exact b1
          · obtain ⟨n', rfl⟩ : ∃ m, n' = m + 1 := ⟨n' - 1, by omega⟩
            have hmay := may9 (μ := m) (k := s) (g := g) (by rw [e1]; exact hI) (by rw [e1]; exact hs) (by omega)
            rw [e1] at hmay
            obtain ⟨m', d1, d2, d3⟩ := b3 (sR m 143 (upd σ (25 + 21 * s + g) (stk σ s g - 1))) n' (by omega) (sR_same _ _ _) (hP.s _) (by rw [sR_ne (by omega)]; exact e2) (fun j hj => by rw [sR_ne (by omega)]; exact e3 j hj)
            refine ⟨m', ?_, d2, (FrT.s _ _).tr d3⟩
            rw [hy m n' e1 e2 e3, isShop9 e1, cal_some, b2_t c1, if_neg (by decide), isGood9, cal_some, b2_t c2, if_neg (by decide), e4, e5, hmay, cal_some, b2_t c3, if_neg (by decide)]
            unfold X9_judge_J116 X9_judge_J150
            rw [if_neg (by decide), its9_s (by omega) (by omega), cal_some, lays9_s (by omega) (by omega), cal_some, bnd_eq, nI_s, e1]
            exact d1
        · refine ⟨nI i, μ, ?_, FrW.rf _ _, fun m n' hn' e1 hP e2 e3 => ?_⟩
          · rw [hx, hasShop7 h, cal_some, b2_t c1, if_neg (by decide), isGood8, cal_some, b2_t c2, if_neg (by decide), e4, e5, maySell7 h hI hs (by omega), cal_some, b2_f c3, if_pos rfl]
            rfl
          · obtain ⟨n', rfl⟩ : ∃ m, n' = m + 1 := ⟨n' - 1, by omega⟩
            have hmay := may9 (μ := m) (k := s) (g := g) (by rw [e1]; exact hI) (by rw [e1]; exact hs) (by omega)
            rw [e1] at hmay
            rw [hy m n' e1 e2 e3, isShop9 e1, cal_some, b2_t c1, if_neg (by decide), isGood9, cal_some, b2_t c2, if_neg (by decide), e4, e5, hmay, cal_some, b2_f c3, if_pos rfl]
            rw [e4, e5] at hno
            exact hno m n' (by omega) e1 hP
      · refine ⟨nI i, μ, ?_, FrW.rf _ _, fun m n' hn' e1 hP e2 e3 => ?_⟩
        · rw [hx, hasShop7 h, cal_some, b2_t c1, if_neg (by decide), isGood8, cal_some, b2_f c2, if_pos rfl]
          rfl
        · obtain ⟨n', rfl⟩ : ∃ m, n' = m + 1 := ⟨n' - 1, by omega⟩
          rw [hy m n' e1 e2 e3, isShop9 e1, cal_some, b2_t c1, if_neg (by decide), isGood9, cal_some, b2_f c2, if_pos rfl]
          exact hno m n' (by omega) e1 hP
    · refine ⟨nI i, μ, ?_, FrW.rf _ _, fun m n' hn' e1 hP e2 e3 => ?_⟩
      · rw [hx, hasShop7 h, cal_some, b2_f c1, if_pos rfl]
        rfl
      · obtain ⟨n', rfl⟩ : ∃ m, n' = m + 1 := ⟨n' - 1, by omega⟩
        rw [hy m n' e1 e2 e3, isShop9 e1, cal_some, b2_f c1, if_pos rfl]
        exact hno m n' (by omega) e1 hP
theorem sim_judge {μ : Mem} (h : Rel μ) (x : Int32) : Sm (f_X8_judge 0 x μ) (f_X9_judge 142 x) := by
  obtain ⟨h1, h2, h3⟩ := id h
  by_cases c1 : (0 : Int32) ≤ x ∧ x ≤ 3
  · obtain ⟨k, -, hk, e1⟩ := lit_rg 0 3 rfl rfl (by omega) (by omega) c1
    obtain ⟨s1, s2, s3, s4, s5⟩ := ShOk.at h (i := k) (by omega)
    obtain ⟨p1, p2⟩ := rg_clamp (n := 24) s4 (by omega)
    subst e1
    by_cases q : μ 151 k = 0
    · refine Sm.er h (k := 2) (by omega) ?_ (fun m e f => ?_)
      · unfold f_X8_judge
        rw [refuse8 h (by omega), cal_some, if_pos q, if_neg (by decide)]
        exact cal_e _
      · unfold f_X9_judge
        rw [refuse9 (μ := μ) (er_at f (Or.inl (by unfold oc; omega)) (by omega)) (by omega), cal_some, if_pos q, if_neg (by decide)]
        exact cal_e _
    · obtain ⟨μ1, a1, r1, f1⟩ := trial7 h1 h2
      obtain ⟨r, μ', b1, b2, b3⟩ := judge_go (k := k) (by omega) p1 (f := μ (135 + 2 * k)) (σ0 := μ 143) ((μ 152 k).toNatClampNeg / 2) 0 μ1 _ FU (by omega) (by rw [FU_eq]; omega) r1 h2 (fun j _ => by rw [f1 _ (by omega)]) (fun _ _ => rfl)
      have hX : f_X8_judge 0 (nI k) μ = some (r, μ') := by
        unfold f_X8_judge
        simp only [Nat.zero_add]
        rw [refuse8 h (by omega), cal_some, if_neg q, if_pos rfl, inb_nI (by omega) (by omega), gd_t, gd_t, gd_nz (by decide), bnd_eq, a1, cal_some, clamp_nI (by omega), locS, locT, s2, p2, (div_p _ p1).2]
        exact b1
      have ff := f1.tr b2
      have hm : μ' 143 = μ 143 := ff.c83 143 (by omega)
      obtain ⟨m1, d1, d2, d3, d4⟩ := carryS hm
      obtain ⟨m2, g1, g2, g3⟩ := b3 m1 FU (by rw [FU_eq]; omega) d2 d3 (by rw [d4 152 (by omega) (by omega) (by omega) (by omega), ff 152 (by omega)]; exact p2) (fun j hj => by rw [d4 153 (by omega) (by omega) (by omega) (by omega), ff 153 (by omega), ← s5 j hj])
      refine Sm.mk h hX (now_fr h1 h2 ff) ff.c83 h2 ⟨m2, ?_, g2, (d4.tr g3).m⟩
      unfold f_X9_judge
      rw [refuse9 (μ := μ) (ff 151 (by omega)) (by omega), cal_some, if_neg q, if_pos (by decide), d1, cal_some]
      exact g1
  · refine Sm.er h (k := 1) (by omega) ?_ (fun m e _ => ?_)
    · unfold f_X8_judge
      rw [refuseN8 c1, cal_some, if_neg (by decide)]
      exact cal_e _
    · unfold f_X9_judge
      rw [refuseN9 c1, cal_some, if_neg (by decide)]
      exact cal_e _
end
