/-! PURE 18: calls that ask -/
theorem ix0 (μ : Mem) (x : Int32) : μ (142 + 1) x.toNatClampNeg = μ 143 x.toNatClampNeg := rfl
theorem rI {x a b : Int32} {lo hi : Int} (ha : a.toInt = lo) (hb : b.toInt = hi) (h : a ≤ x ∧ x ≤ b) : rg x lo hi := (le_rg a b ha hb).mp h
/-- low numbers change -/
theorem Inv.low {σ σ' : Nat → Int32} (hI : Inv σ) (he : ∀ i, 16 ≤ i → i < 492 → σ' i = σ i) (h0 : σ' 0 = σ 0) (h1 : σ' 1 = σ 1) (h6 : σ' 6 = σ 6) (h4 : rg (σ' 4) 0 1) (h5 : rg (σ' 5) 0 2) (h7 : rg (σ' 7) 0 24) (hc : ∀ g, g < 6 → rg (σ' (10 + g)) 0 99) : Inv σ' := by
  have c10 := hI.c10
  have s6 := hI.n6
  have t60 := hI.T60
  obtain ⟨i0, i1, i4, i5, i6, i7, ic, hS, hC, hT, hB⟩ := hI
  have n0 : nS σ' = nS σ := by unfold nS; rw [h0]
  have n1 : nC σ' = nC σ := by unfold nC; rw [h1]
  have n6 : nT σ' = nT σ := by unfold nT; rw [h6]
  refine ⟨by rw [h0]; exact i0, by rw [h1]; exact i1, h4, h5, by rw [h6]; exact i6, h7, hc, fun k hk => ?_, fun c hc => ?_, fun u hu => ?_, fun j hj => ?_⟩
  · rw [n0] at hk
    refine ShopOk.mk (fun j hj => ?_)
    rw [he _ (by omega) (by omega)]
    exact (hS k hk).at hj
  · rw [n1] at hc
    exact (hC c hc).eq (by omega) (fun j h1 h2 => he j (by omega) (by omega))
  · exact (hT u hu).eq (txt_eq hu (fun j h1 h2 => he j (by omega) (by omega)))
  · rw [n6] at hj
    rw [he _ (by omega) (by omega)]
    exact hB j hj
section OPS1
variable {μ : Mem}
theorem sim_cost (h : Rel μ) (x y : Int32) : Sm (f_X8_cost 0 x y μ) (f_X9_cost 142 x y) := by
  obtain ⟨h1, h2, h3⟩ := id h
  by_cases c1 : (0 : Int32) ≤ x ∧ x ≤ 5
  · by_cases c2 : (0 : Int32) ≤ y ∧ y ≤ 99
    · obtain ⟨g, -, hg, rfl⟩ := lit_rg 0 5 rfl rfl (by omega) (by omega) c1
      have hX : f_X8_cost 0 (nI g) y μ = some (μ 143 (10 + g), mset μ (1 + 1) g y) := by
        unfold f_X8_cost
        rw [isGood8, cal_some, b2_t c1, if_neg (by decide), within_eq, cal_some, b2_t c2, if_neg (by decide), inb_nI (by omega) (by omega), gd_t, bnd_eq, gd_t, bnd_eq, clamp_nI (by omega), Nat.zero_add, rd_cost h1 (by omega)]
      refine Sm.mk h hX (h1.wr h2 (am_cost g (by omega)) (by omega) (by omega) (by omega) (by omega) y) (FrW.ms (w := 1) (a := 1) (by omega)).c1 (h2.low (fun i a b => upd_ne (by omega)) (upd_ne (by omega)) (upd_ne (by omega)) (upd_ne (by omega)) (by rw [upd_ne (by omega)]; exact h2.ring) (by rw [upd_ne (by omega)]; exact h2.law) (by rw [upd_ne (by omega)]; exact h2.2.2.2.2.2.1) (fun g' hg' => ?_)) ?_
      · by_cases e : g' = g
        · rw [e, upd_same]; exact rI (by decide) (by decide) c2
        · rw [upd_ne (by omega)]; exact h2.cost g' hg'
      · have hm : mset μ (1 + 1) g y 143 = μ 143 := mset_row (by omega)
        refine ⟨sR (mset μ (1 + 1) g y) 143 (upd (μ 143) (10 + g) y), ?_, sR_same _ _ _, FrM.s143 _ _⟩
        unfold f_X9_cost
        rw [isGood9, cal_some, b2_t c1, if_neg (by decide), in_eq, cal_some, b2_t c2, if_neg (by decide), ten9, inb_nI (by omega) (by omega), gd_t, bnd_eq, gd_t, bnd_eq, clamp_nI (by omega), show (142 + 1 : Nat) = 143 from rfl, mset_sR _ 143, hm]
    · refine Sm.er h (k := 1) (by omega) ?_ (fun m e _ => ?_)
      · unfold f_X8_cost X8_cost_J17
        rw [isGood8, cal_some, b2_t c1, if_neg (by decide), within_eq, cal_some, b2_f c2, if_pos rfl]
        exact cal_e _
      · unfold f_X9_cost X9_cost_J17
        rw [isGood9, cal_some, b2_t c1, if_neg (by decide), in_eq, cal_some, b2_f c2, if_pos rfl]
        exact cal_e _
  · refine Sm.er h (k := 1) (by omega) ?_ (fun m e _ => ?_)
    · unfold f_X8_cost X8_cost_J17
      rw [isGood8, cal_some, b2_f c1, if_pos rfl]
      exact cal_e _
    · unfold f_X9_cost X9_cost_J17
      rw [isGood9, cal_some, b2_f c1, if_pos rfl]
      exact cal_e _
theorem sim_shopIs (h : Rel μ) (x y : Int32) : Sm (f_X8_shopIs 0 x y μ) (f_X9_shopIs 142 x y) := by
  obtain ⟨h1, h2, h3⟩ := id h
  by_cases c1 : (0 : Int32) ≤ x ∧ x ≤ μ 143 0 - 1
  · by_cases c2 : (0 : Int32) ≤ y ∧ y ≤ 15
    · obtain ⟨k, hk, e1⟩ := h2.sh c1
      obtain ⟨j, -, hj, e2⟩ := lit_rg 0 15 rfl rfl (by omega) (by omega) c2
      have hX : f_X8_shopIs 0 x y μ = some (fct (μ 143) k j, μ) := by
        unfold f_X8_shopIs
        rw [Nat.zero_add, hasShop7 h1, cal_some, b2_t c1, if_neg (by decide), within_eq, cal_some, b2_t c2, if_neg (by decide), e1, e2, factOf7 h1 h2 hk hj, cal_some]
      refine Sm.mk h hX h1 (FrC.rf _) h2 ⟨μ, ?_, rfl, FrM.rf _⟩
      unfold f_X9_shopIs X9_shopIs_J32
      rw [isShop9 rfl, cal_some, b2_t c1, if_neg (by decide), in_eq, cal_some, b2_t c2, if_neg (by decide), e1, e2, toldShop9 rfl h2 hk hj, cal_some]
    · refine Sm.er h (k := 1) (by omega) ?_ (fun m e _ => ?_)
      · unfold f_X8_shopIs X8_shopIs_J21
        rw [Nat.zero_add, hasShop7 h1, cal_some, b2_t c1, if_neg (by decide), within_eq, cal_some, b2_f c2, if_pos rfl]
        exact cal_e _
      · unfold f_X9_shopIs X9_shopIs_J27 X9_shopIs_J32
        rw [isShop9 e, cal_some, b2_t c1, if_neg (by decide), in_eq, cal_some, b2_f c2, if_pos rfl]
        exact cal_e _
  · refine Sm.er h (k := 1) (by omega) ?_ (fun m e _ => ?_)
    · unfold f_X8_shopIs X8_shopIs_J21
      rw [Nat.zero_add, hasShop7 h1, cal_some, b2_f c1, if_pos rfl]
      exact cal_e _
    · unfold f_X9_shopIs X9_shopIs_J27 X9_shopIs_J32
      rw [isShop9 e, cal_some, b2_f c1, if_pos rfl]
      exact cal_e _
theorem sim_price (h : Rel μ) (x y : Int32) : Sm (f_X8_price 0 x y μ) (f_X9_price 142 x y) := by
  obtain ⟨h1, h2, h3⟩ := id h
  by_cases c1 : (0 : Int32) ≤ x ∧ x ≤ μ 143 0 - 1
  · by_cases c2 : (0 : Int32) ≤ y ∧ y ≤ 5
    · obtain ⟨k, hk, e1⟩ := h2.sh c1
      obtain ⟨g, -, hg, e2⟩ := lit_rg 0 5 rfl rfl (by omega) (by omega) c2
      obtain ⟨μ1, a1, r1, f1⟩ := priceOf7 h1 h2 hk (g := g) (by omega)
      have hm := f1.c1 143 (by omega)
      obtain ⟨μ2, a2, f2⟩ := priceOf9 hm h2 hk (g := g) (by omega)
      have hX : f_X8_price 0 x y μ = some (prc (μ 143) k g, μ1) := by
        unfold f_X8_price
        rw [Nat.zero_add, hasShop7 h1, cal_some, b2_t c1, if_neg (by decide), isGood8, cal_some, b2_t c2, if_neg (by decide), e1, e2, a1, cal_some]
      refine Sm.mk h hX r1 f1.c1 h2 ⟨μ2, ?_, by rw [f2.s3, hm], f2.G.m⟩
      unfold f_X9_price X9_price_J29
      rw [isShop9 hm, cal_some, b2_t c1, if_neg (by decide), isGood9, cal_some, b2_t c2, if_neg (by decide), e1, e2, a2, cal_some]
    · refine Sm.er h (k := 1) (by omega) ?_ (fun m e _ => ?_)
      · unfold f_X8_price X8_price_J18
        rw [Nat.zero_add, hasShop7 h1, cal_some, b2_t c1, if_neg (by decide), isGood8, cal_some, b2_f c2, if_pos rfl]
        exact cal_e _
      · unfold f_X9_price X9_price_J24 X9_price_J29
        rw [isShop9 e, cal_some, b2_t c1, if_neg (by decide), isGood9, cal_some, b2_f c2, if_pos rfl]
        exact cal_e _
  · refine Sm.er h (k := 1) (by omega) ?_ (fun m e _ => ?_)
    · unfold f_X8_price X8_price_J18
      rw [Nat.zero_add, hasShop7 h1, cal_some, b2_f c1, if_pos rfl]
      exact cal_e _
    · unfold f_X9_price X9_price_J24 X9_price_J29
      rw [isShop9 e, cal_some, b2_f c1, if_pos rfl]
      exact cal_e _
theorem sim_fills (h : Rel μ) (x y : Int32) : Sm (f_X8_fills 0 x y μ) (f_X9_fills 142 x y) := by
  obtain ⟨h1, h2, h3⟩ := id h
  by_cases c1 : (0 : Int32) ≤ x ∧ x ≤ μ 143 0 - 1
  · by_cases c2 : (0 : Int32) ≤ y ∧ y ≤ 5
    · obtain ⟨k, hk, e1⟩ := h2.sh c1
      obtain ⟨g, -, hg, e2⟩ := lit_rg 0 5 rfl rfl (by omega) (by omega) c2
      obtain ⟨μ1, a1, r1, f1⟩ := fillOf7 h1 h2 hk (g := g) (by omega)
      have hm := f1.c1 143 (by omega)
      obtain ⟨μ2, a2, f2⟩ := fillsOf9 hm h2 hk (g := g) (by omega)
      have hX : f_X8_fills 0 x y μ = some (fil (μ 143) k g, μ1) := by
        unfold f_X8_fills
        rw [Nat.zero_add, hasShop7 h1, cal_some, b2_t c1, if_neg (by decide), isGood8, cal_some, b2_t c2, if_neg (by decide), e1, e2, a1, cal_some]
      refine Sm.mk h hX r1 f1.c1 h2 ⟨μ2, ?_, by rw [f2.s3, hm], f2.G.m⟩
      unfold f_X9_fills X9_fills_J29
      rw [isShop9 hm, cal_some, b2_t c1, if_neg (by decide), isGood9, cal_some, b2_t c2, if_neg (by decide), e1, e2, a2, cal_some]
    · refine Sm.er h (k := 1) (by omega) ?_ (fun m e _ => ?_)
      · unfold f_X8_fills X8_fills_J18
        rw [Nat.zero_add, hasShop7 h1, cal_some, b2_t c1, if_neg (by decide), isGood8, cal_some, b2_f c2, if_pos rfl]
        exact cal_e _
      · unfold f_X9_fills X9_fills_J24 X9_fills_J29
        rw [isShop9 e, cal_some, b2_t c1, if_neg (by decide), isGood9, cal_some, b2_f c2, if_pos rfl]
        exact cal_e _
  · refine Sm.er h (k := 1) (by omega) ?_ (fun m e _ => ?_)
    · unfold f_X8_fills X8_fills_J18
      rw [Nat.zero_add, hasShop7 h1, cal_some, b2_f c1, if_pos rfl]
      exact cal_e _
    · unfold f_X9_fills X9_fills_J24 X9_fills_J29
      rw [isShop9 e, cal_some, b2_f c1, if_pos rfl]
      exact cal_e _
theorem sim_visit (h : Rel μ) (x : Int32) : Sm (f_X8_visit 0 x μ) (f_X9_visit 142 x) := by
  obtain ⟨h1, h2, h3⟩ := id h
  by_cases c1 : (0 : Int32) ≤ x ∧ x ≤ μ 143 1 - 1
  · obtain ⟨c, hc, e1⟩ := h2.cu c1
    obtain ⟨μ1, a1, r1, f1⟩ := goAlong7 h1 h2 hc
    have hm := f1.c1 143 (by omega)
    obtain ⟨μ2, a2, r2, f2⟩ := visits9 hm h2 hc
    have hX : f_X8_visit 0 x μ = some ((vis (μ 143) c).2.2, μ1) := by
      unfold f_X8_visit
      rw [Nat.zero_add, hasCust7 h1, cal_some, b2_t c1, if_neg (by decide), e1, a1, cal_some]
    refine Sm.mk h hX r1 f1.c1 (vis_ok h2 hc).1 ⟨μ2, ?_, r2, f2.m⟩
    unfold f_X9_visit X9_visit_J21
    rw [isCust9 hm, cal_some, b2_t c1, if_neg (by decide), e1, a2, cal_some]
  · refine Sm.er h (k := 1) (by omega) ?_ (fun m e _ => ?_)
    · unfold f_X8_visit
      rw [Nat.zero_add, hasCust7 h1, cal_some, b2_f c1, if_pos rfl]
      exact cal_e _
    · unfold f_X9_visit X9_visit_J21
      rw [isCust9 e, cal_some, b2_f c1, if_pos rfl]
      exact cal_e _
theorem sim_seed (h : Rel μ) (x : Int32) : Sm (f_X8_seed 0 x μ) (f_X9_seed 142 x) := by
  obtain ⟨h1, h2, h3⟩ := id h
  have hX : f_X8_seed 0 x μ = some (μ 143 8, mset μ 1 9 x) := by
    unfold f_X8_seed
    rw [bnd_eq, bnd_eq, Nat.zero_add, rd_z h1]
  refine Sm.mk h hX (wr_z h1 h2 x) (FrW.m0 (w := 1)).c1 (h2.free (by omega) x).1 ?_
  have hm : mset μ 1 9 x 143 = μ 143 := mset_row (by omega)
  refine ⟨sR (mset μ 1 9 x) 143 (upd (μ 143) 8 x), ?_, sR_same _ _ _, FrM.s143 _ _⟩
  unfold f_X9_seed
  rw [show inb (8 : Int32) 516 = true from by decide, gd_t, bnd_eq, gd_t, bnd_eq, show (8 : Int32).toNatClampNeg = 8 from by decide, show (142 + 1 : Nat) = 143 from rfl, mset_sR _ 143, hm]
theorem sim_customerIs (h : Rel μ) (x y : Int32) : Sm (f_X8_customerIs 0 x y μ) (f_X9_customerIs 142 x y) := by
  obtain ⟨h1, h2, h3⟩ := id h
  have h10 := h2.c10
  by_cases c1 : (0 : Int32) ≤ x ∧ x ≤ μ 143 1 - 1
  · obtain ⟨c, hc, e1⟩ := h2.cu c1
    have hu : f_X8_customerIs 0 x y μ = (if y = 0 then some (μ 143 (142 + 4 * c + 0), μ) else if y = 1 then some (μ 143 (142 + 4 * c + 1), μ) else if y = 2 then some (μ 143 (142 + 4 * c + 2), μ) else if y = 3 then some (μ 143 (142 + 4 * c + 3), μ) else f_X8_error 0 1 μ) := by
      unfold f_X8_customerIs
      rw [Nat.zero_add, hasCust7 h1, cal_some, b2_t c1, if_neg (by decide), e1, inb_nI (by omega) (by omega), gd_t, clamp_nI (by omega), locD, cal_e, rd_cust h1 h2 hc (by omega : 0 < 4), rd_cust h1 h2 hc (by omega : 1 < 4), rd_cust h1 h2 hc (by omega : 2 < 4), rd_cust h1 h2 hc (by omega : 3 < 4)]
    by_cases c2 : (0 : Int32) ≤ y ∧ y ≤ 3
    · obtain ⟨j, -, hj, e2⟩ := lit_rg 0 3 rfl rfl (by omega) (by omega) c2
      have hX : f_X8_customerIs 0 x y μ = some (μ 143 (142 + 4 * c + j), μ) := by
        rw [hu, e2]
        rcases (show j = 0 ∨ j = 1 ∨ j = 2 ∨ j = 3 by omega) with rfl | rfl | rfl | rfl
        · rw [if_pos (by decide)]
        · rw [if_neg (by decide), if_pos (by decide)]
        · rw [if_neg (by decide), if_neg (by decide), if_pos (by decide)]
        · rw [if_neg (by decide), if_neg (by decide), if_neg (by decide), if_pos (by decide)]
      refine Sm.mk h hX h1 (FrC.rf _) h2 ⟨μ, ?_, rfl, FrM.rf _⟩
      unfold f_X9_customerIs X9_customerIs_J31
      rw [isCust9 rfl, cal_some, b2_t c1, if_neg (by decide), in_eq, cal_some, b2_t c2, if_neg (by decide), e1, e2, of9 rfl rfl (by omega) (by omega), cal_some]
    · refine Sm.er h (k := 1) (by omega) ?_ (fun m e _ => ?_)
      · rw [hu, if_neg (fun q => c2 (by rw [q]; decide)), if_neg (fun q => c2 (by rw [q]; decide)), if_neg (fun q => c2 (by rw [q]; decide)), if_neg (fun q => c2 (by rw [q]; decide))]
        rfl
      · unfold f_X9_customerIs X9_customerIs_J26 X9_customerIs_J31
        rw [isCust9 e, cal_some, b2_t c1, if_neg (by decide), in_eq, cal_some, b2_f c2, if_pos rfl]
        exact cal_e _
  · refine Sm.er h (k := 1) (by omega) ?_ (fun m e _ => ?_)
    · unfold f_X8_customerIs
      rw [Nat.zero_add, hasCust7 h1, cal_some, b2_f c1, if_pos rfl]
      exact cal_e _
    · unfold f_X9_customerIs X9_customerIs_J26 X9_customerIs_J31
      rw [isCust9 e, cal_some, b2_f c1, if_pos rfl]
      exact cal_e _
/-- days -/
theorem sim_days (h : Rel μ) (x : Int32) : Sm (f_X8_days 0 x μ) (f_X9_days 142 x) := by
  obtain ⟨h1, h2, h3⟩ := id h
  have e2 : (2 : Int32).toNatClampNeg = 2 := by decide
  have e3 : (3 : Int32).toNatClampNeg = 3 := by decide
  by_cases c1 : (1 : Int32) ≤ x ∧ x ≤ 60
  · by_cases c2 : μ 143 2 + x ≤ 9999
    · obtain ⟨N, -, hN, e1⟩ := lit_rg 1 60 rfl rfl (by omega) (by omega) c1
      obtain ⟨μ1, a1, r1, f1⟩ := pass7 (N := N) (by omega) 0 h1 h2
      have hm := f1.c1 143 (by omega)
      obtain ⟨μ2, a2, r2, f2⟩ := go9 (N := N) (by omega) hm h2
      have hX : f_X8_days 0 x μ = some (dyGo 0 N (μ 143) 3, μ1) := by
        unfold f_X8_days f_X8_daysRefusal X8_daysRefusal_J32
        rw [within_eq, cal_some, b2_t c1, if_neg (by decide), Nat.zero_add, rd_days h1, if_pos c2, cal_some, if_pos rfl, e1, a1, cal_some, rd_sales r1]
      refine Sm.mk h hX r1 f1.c1 (dyGo_kp N _ h2).1 ⟨μ2, ?_, r2, f2.m⟩
      unfold f_X9_days
      rw [in_eq, cal_some, b2_t c1, if_neg (by decide), show inb (2 : Int32) 516 = true from by decide, gd_t, ix143 hm, e2, if_pos c2, e1, a2, cal_some, show inb (3 : Int32) 516 = true from by decide, gd_t, ix143 r2, e3]
    · refine Sm.er h (k := 3) (by omega) ?_ (fun m e _ => ?_)
      · unfold f_X8_days f_X8_daysRefusal X8_daysRefusal_J32
        rw [within_eq, cal_some, b2_t c1, if_neg (by decide), Nat.zero_add, rd_days h1, if_neg c2, cal_some, if_neg (by decide)]
        exact cal_e _
      · unfold f_X9_days
        rw [in_eq, cal_some, b2_t c1, if_neg (by decide), show inb (2 : Int32) 516 = true from by decide, gd_t, ix143 e, e2, if_neg c2]
        exact cal_e _
  · refine Sm.er h (k := 1) (by omega) ?_ (fun m e _ => ?_)
    · unfold f_X8_days f_X8_daysRefusal
      rw [within_eq, cal_some, b2_f c1, if_pos rfl, cal_some, if_neg (by decide)]
      exact cal_e _
    · unfold f_X9_days
      rw [in_eq, cal_some, b2_f c1, if_pos rfl]
      exact cal_e _
theorem sim_loose (h : Rel μ) (x : Int32) : Sm (f_X8_loose 0 x μ) (f_X9_loose 142 x) := by
  obtain ⟨h1, h2, h3⟩ := id h
  have e2 : (2 : Int32).toNatClampNeg = 2 := by decide
  by_cases c1 : (1 : Int32) ≤ x ∧ x ≤ 60
  · by_cases c2 : μ 143 2 + x ≤ 9999
    · obtain ⟨N, -, hN, e1⟩ := lit_rg 1 60 rfl rfl (by omega) (by omega) c1
      obtain ⟨μ1, a1, r1, f1⟩ := pass7 (N := N) (by omega) 1 h1 h2
      have hm := f1.c1 143 (by omega)
      obtain ⟨μ2, a2, r2, f2⟩ := loose38 (N := N) (by omega) N 0 μ1 _ FU (by omega) (by rw [FU_eq]; omega) hm h2
      have hX : f_X8_loose 0 x μ = some (dyGo 1 N (μ 143) 3, μ1) := by
        unfold f_X8_loose f_X8_daysRefusal X8_daysRefusal_J32
        rw [within_eq, cal_some, b2_t c1, if_neg (by decide), Nat.zero_add, rd_days h1, if_pos c2, cal_some, if_pos rfl, e1, a1, cal_some, rd_sales r1]
      refine Sm.mk h hX r1 f1.c1 (dyGo_kp N _ h2).1 ⟨μ2, ?_, r2, f2.m⟩
      unfold f_X9_loose
      rw [in_eq, cal_some, b2_t c1, if_neg (by decide), show inb (2 : Int32) 516 = true from by decide, gd_t, ix143 hm, e2, if_pos c2, e1]
      exact a2
    · refine Sm.er h (k := 3) (by omega) ?_ (fun m e _ => ?_)
      · unfold f_X8_loose f_X8_daysRefusal X8_daysRefusal_J32
        rw [within_eq, cal_some, b2_t c1, if_neg (by decide), Nat.zero_add, rd_days h1, if_neg c2, cal_some, if_neg (by decide)]
        exact cal_e _
      · unfold f_X9_loose
        rw [in_eq, cal_some, b2_t c1, if_neg (by decide), show inb (2 : Int32) 516 = true from by decide, gd_t, ix143 e, e2, if_neg c2]
        exact cal_e _
  · refine Sm.er h (k := 1) (by omega) ?_ (fun m e _ => ?_)
    · unfold f_X8_loose f_X8_daysRefusal
      rw [within_eq, cal_some, b2_f c1, if_pos rfl, cal_some, if_neg (by decide)]
      exact cal_e _
    · unfold f_X9_loose
      rw [in_eq, cal_some, b2_f c1, if_pos rfl]
      exact cal_e _
end OPS1
