/-! PURE 23: customers come, shops open, bytes are fed -/
def cst (x y z : Int32) : Prop := ((0 : Int32) ≤ x ∧ x ≤ 63) ∧ ((10 : Int32) ≤ y ∧ y ≤ 121) ∧ ¬ (1 : Int32) < irm y 10 ∧ ((0 : Int32) ≤ z ∧ z ≤ 999)
theorem isCust8 (x y z : Int32) (m : Mem) : (cst x y z ∧ f_X8_isCustomer x y z m = some (1, m)) ∨ (¬ cst x y z ∧ f_X8_isCustomer x y z m = some (0, m)) := by
  unfold f_X8_isCustomer X8_isCustomer_J23 X8_isCustomer_J24 X8_isCustomer_J54 X8_isCustomer_J55 cst
  have z10 : ((1 : Int32) = 0) = False := eq_false (by decide)
  have z11 : (!((10 : Int32) == 0)) = true := by decide
  simp only [within_eq, cal_some, show isb (0 : Int32) = true from rfl, show isb (1 : Int32) = true from rfl, gd_t, z10, z11, if_true, if_false]
  by_cases c1 : (10 : Int32) ≤ y ∧ y ≤ 121
  · rw [b2_t c1, if_neg (by decide)]
    by_cases c2 : (1 : Int32) < irm y 10
    · rw [if_pos c2]
      refine Or.inr ⟨fun q => q.2.2.1 c2, ?_⟩
      split <;> rfl
    · rw [if_neg c2]
      by_cases c3 : (0 : Int32) ≤ x ∧ x ≤ 63
      · rw [b2_t c3, if_neg (by decide)]
        by_cases c4 : (0 : Int32) ≤ z ∧ z ≤ 999
        · rw [b2_t c4, if_neg (by decide)]
          exact Or.inl ⟨⟨c3, c1, c2, c4⟩, rfl⟩
        · rw [b2_f c4, if_pos rfl]
          exact Or.inr ⟨fun q => c4 q.2.2.2, rfl⟩
      · rw [b2_f c3, if_pos rfl]
        exact Or.inr ⟨fun q => c3 q.1, rfl⟩
  · rw [b2_f c1, if_pos rfl]
    refine Or.inr ⟨fun q => c1 q.2.1, ?_⟩
    split <;> rfl
theorem isCust9' (x y z : Int32) (m : Mem) : (cst x y z ∧ f_X9_isCustomer1 x y z m = some (1, m)) ∨ (¬ cst x y z ∧ f_X9_isCustomer1 x y z m = some (0, m)) := by
  unfold f_X9_isCustomer1 X9_isCustomer1_J44 X9_isCustomer1_J45 cst
  rw [in_eq, cal_some, in_eq, cal_some, in_eq, cal_some, gd_nz (by decide), show isb (0 : Int32) = true from rfl, show isb (1 : Int32) = true from rfl, gd_t, gd_t]
  by_cases c3 : (0 : Int32) ≤ x ∧ x ≤ 63
  · rw [b2_t c3, if_neg (by decide)]
    by_cases c1 : (10 : Int32) ≤ y ∧ y ≤ 121
    · rw [b2_t c1, if_neg (by decide)]
      by_cases c2 : (1 : Int32) < irm y 10
      · rw [if_pos c2]
        exact Or.inr ⟨fun q => q.2.2.1 c2, rfl⟩
      · rw [if_neg c2]
        by_cases c4 : (0 : Int32) ≤ z ∧ z ≤ 999
        · rw [b2_t c4, if_neg (by decide)]
          exact Or.inl ⟨⟨c3, c1, c2, c4⟩, rfl⟩
        · rw [b2_f c4, if_pos rfl]
          exact Or.inr ⟨fun q => c4 q.2.2.2, rfl⟩
    · rw [b2_f c1, if_pos rfl]
      exact Or.inr ⟨fun q => c1 q.2.1, rfl⟩
  · rw [b2_f c3, if_pos rfl]
    exact Or.inr ⟨fun q => c3 q.1, rfl⟩
theorem cst8 {x y z : Int32} (m : Mem) (h : cst x y z) : f_X8_isCustomer x y z m = some (1, m) := ((isCust8 x y z m).resolve_right (fun q => q.1 h)).2
theorem cst9 {x y z : Int32} (m : Mem) (h : cst x y z) : f_X9_isCustomer1 x y z m = some (1, m) := ((isCust9' x y z m).resolve_right (fun q => q.1 h)).2
theorem ncst8 {x y z : Int32} (m : Mem) (h : ¬ cst x y z) : f_X8_isCustomer x y z m = some (0, m) := ((isCust8 x y z m).resolve_left (fun q => h q.1)).2
theorem ncst9 {x y z : Int32} (m : Mem) (h : ¬ cst x y z) : f_X9_isCustomer1 x y z m = some (0, m) := ((isCust9' x y z m).resolve_left (fun q => h q.1)).2
def wl4 (σ : Nat → Int32) (n : Nat) (x y z : Int32) : Nat → Int32 := upd (upd (upd (upd σ (142 + 4 * n) x) (143 + 4 * n) (y / 10)) (144 + 4 * n) (irm y 10)) (145 + 4 * n) z
def wlc (σ : Nat → Int32) (x y z : Int32) : Nat → Int32 := upd (wl4 σ (nC σ) x y z) 1 (nI (nC σ + 1))
theorem div_all : ∀ v, v ≤ 121 → v < 10 ∨ (1 : Int32) < irm (nI v) 10 ∨ ((1 ≤ (nI v / 10).toInt ∧ (nI v / 10).toInt ≤ 12) ∧ (0 ≤ (irm (nI v) 10).toInt ∧ (irm (nI v) 10).toInt ≤ 1)) := by decide +kernel
theorem wl4_ne {σ : Nat → Int32} {n i : Nat} {x y z : Int32} (h : i < 142 + 4 * n ∨ 145 + 4 * n < i) : wl4 σ n x y z i = σ i := by
  unfold wl4
  rw [upd_ne (by omega), upd_ne (by omega), upd_ne (by omega), upd_ne (by omega)]
theorem wlc_ne {σ : Nat → Int32} {i : Nat} {x y z : Int32} (h : i < 142 + 4 * nC σ ∨ 145 + 4 * nC σ < i) (h1 : i ≠ 1) : wlc σ x y z i = σ i := by
  unfold wlc
  rw [upd_ne h1, wl4_ne h]
theorem wlc_1 {σ : Nat → Int32} (hI : Inv σ) {x y z : Int32} : nC (wlc σ x y z) = nC σ + 1 := by
  have h10 := hI.c10
  have : ∀ n, n < 2 ^ 31 → (upd (wl4 σ (nC σ) x y z) 1 (nI n) 1).toNatClampNeg = n := fun n hn => by rw [upd_same]; exact clamp_nI hn
  exact this (nC σ + 1) (by omega)
theorem wlc_inv {σ : Nat → Int32} (hI : Inv σ) {x y z : Int32} (hn : nC σ < 10) (hc : cst x y z) : Inv (wlc σ x y z) := by
  refine hI.cnts (fun i a b c d => wlc_ne (by omega) b) ?_ (by rw [wlc_ne (by omega) (by omega)]; exact hI.r6) (by rw [wlc_ne (by omega) (by omega)]; exact hI.r7) (fun c hc' => ?_) (fun i hi => ?_)
  · unfold wlc
    rw [upd_same]
    exact nI_rg (n := 10) (by omega) (by omega)
  · rw [wlc_1 hI] at hc'
    by_cases q : c = nC σ
    · obtain ⟨c1, c2, c3, c4⟩ := hc
      obtain ⟨v, v1, v2, e⟩ := lit_rg 10 121 rfl rfl (by omega) (by omega) c2
      have hd := ((div_all v v2).resolve_left (by omega)).resolve_left (by rw [← e]; exact c3)
      rw [← e] at hd
      unfold CustOk wlc wl4
      rw [q]
      refine ⟨?_, ?_, ?_, ?_⟩
      · rw [upd_ne (by omega), upd_ne (by omega), upd_ne (by omega), upd_ne (by omega), upd_same]
        exact rI (by decide) (by decide) c1
      · rw [upd_ne (by omega), upd_ne (by omega), upd_ne (by omega), upd_same]
        exact hd.1
      · rw [upd_ne (by omega), upd_ne (by omega), upd_same]
        exact hd.2
      · rw [upd_ne (by omega), upd_same]
        exact rI (by decide) (by decide) c4
    · have := hI.cust c (by omega)
      unfold CustOk at this ⊢
      rw [wlc_ne (by omega) (by omega), wlc_ne (by omega) (by omega), wlc_ne (by omega) (by omega), wlc_ne (by omega) (by omega)]
      exact this
  · have h60 := hI.T60
    unfold nT at hi
    rw [wlc_ne (by omega) (by omega)] at hi
    have hi2 : i < nT σ := hi
    rw [wlc_ne (by omega) (by omega)]
    exact hI.tape i hi2
theorem welcome7 {w : Nat} {μ : Mem} {σ : Nat → Int32} (h : RepW μ w σ) (hI : Inv σ) (x y z : Int32) (hn : nC σ < 10) : PW w μ (f_X7_welcome w x y z μ) 0 (wlc σ x y z) := by
  generalize hk : nC σ = n at hn
  have hs : σ 1 = nI n := by rw [← hk]; exact hI.s1
  have a0 := am_cust n hn 0 (by omega)
  have a1 := am_cust n hn 1 (by omega)
  have a2 := am_cust n hn 2 (by omega)
  have a3 := am_cust n hn 3 (by omega)
  rw [show 142 + 4 * n + 0 = 142 + 4 * n by omega] at a0
  rw [show 142 + 4 * n + 1 = 143 + 4 * n by omega] at a1
  rw [show 142 + 4 * n + 2 = 144 + 4 * n by omega] at a2
  rw [show 142 + 4 * n + 3 = 145 + 4 * n by omega] at a3
  have hT0 : ∀ u, u < 2 → (σ (182 + 125 * u)).toNatClampNeg ≤ 60 := hI.t60
  have x1 := h.1.wr a0 x
  have d1 := h.2.1.wr hI.n6 a0 (by omega) x
  have t1 := h.2.2.wr hT0 a0 x
  have x2 := x1.wr a1 (y / 10)
  have d2 := d1.wr (by unfold nS; rw [upd_ne (by omega)]; exact hI.n6) a1 (by omega) (y / 10)
  have t2 := t1.wr (fun u hu => by rw [upd_ne (by omega)]; exact hT0 u hu) a1 (y / 10)
  have x3 := x2.wr a2 (irm y 10)
  have d3 := d2.wr (by unfold nS; rw [upd_ne (by omega), upd_ne (by omega)]; exact hI.n6) a2 (by omega) (irm y 10)
  have t3 := t2.wr (fun u hu => by rw [upd_ne (by omega), upd_ne (by omega)]; exact hT0 u hu) a2 (irm y 10)
  have x4 := x3.wr a3 z
  have d4 := d3.wr (by unfold nS; rw [upd_ne (by omega), upd_ne (by omega), upd_ne (by omega)]; exact hI.n6) a3 (by omega) z
  have t4 := t3.wr (fun u hu => by rw [upd_ne (by omega), upd_ne (by omega), upd_ne (by omega)]; exact hT0 u hu) a3 z
  have x5 := x4.wr (i := 1) (p := (0, 6)) rfl (nI (n + 1))
  have d5 := d4.wr (by unfold nS; rw [upd_ne (by omega), upd_ne (by omega), upd_ne (by omega), upd_ne (by omega)]; exact hI.n6) (i := 1) (p := (0, 6)) rfl (by omega) (nI (n + 1))
  have t5 := t4.wr (fun u hu => by rw [upd_ne (by omega), upd_ne (by omega), upd_ne (by omega), upd_ne (by omega)]; exact hT0 u hu) (i := 1) (p := (0, 6)) rfl (nI (n + 1))
  have hσ : wlc σ x y z = upd (upd (upd (upd (upd σ (142 + 4 * n) x) (143 + 4 * n) (y / 10)) (144 + 4 * n) (irm y 10)) (145 + 4 * n) z) 1 (nI (n + 1)) := by
    unfold wlc wl4
    rw [hk]
  have hlv : ∀ j, lve (wlc σ x y z) j → ((((lve σ j ∨ j = 142 + 4 * n) ∨ j = 143 + 4 * n) ∨ j = 144 + 4 * n) ∨ j = 145 + 4 * n) ∨ j = 1 := by
    intro j hj
    unfold lve at hj
    rw [wlc_1 hI, hk] at hj
    unfold nS nT nW at hj
    rw [wlc_ne (by omega) (by omega), wlc_ne (by omega) (by omega), wlc_ne (by omega) (by omega)] at hj
    by_cases q : 142 + 4 * n ≤ j ∧ j ≤ 145 + 4 * n
    · omega
    · refine Or.inl (Or.inl (Or.inl (Or.inl (Or.inl ⟨hj.1, fun a b => ?_, hj.2.2.1, hj.2.2.2⟩))))
      have := hj.2.1 a b
      rw [hk]
      omega
  refine ⟨_, ?_, ⟨RepX.mono (hσ ▸ x5) hlv, hσ ▸ d5, hσ ▸ t5⟩, ((((FrW.ms (a := 25 + n) (by omega)).tr (FrW.ms (a := 25 + n) (by omega))).tr (FrW.ms (a := 25 + n) (by omega))).tr (FrW.ms (a := 25 + n) (by omega))).tr FrW.m0⟩
  unfold f_X7_welcome
  have hc : ∀ a b c d, mset (mset (mset (mset μ (w + 25 + n) 0 a) (w + 25 + n) 1 b) (w + 25 + n) 2 c) (w + 25 + n) 3 d w 6 = nI n := fun a b c d => by
    rw [mset_row (by omega), mset_row (by omega), mset_row (by omega), mset_row (by omega), rd_c h, hs]
  rw [rd_c h, hs, inb_nI (by omega) (by omega), gd_t, bnd_eq, gd_nz (by decide), bnd_eq, gd_nz (by decide), bnd_eq, bnd_eq, bnd_eq, clamp_nI (by omega), locD, hc, nI_s]
  rw [Nat.add_assoc w 25 n]
theorem add9 {μ : Mem} {σ : Nat → Int32} (h : μ 143 = σ) (hI : Inv σ) (x y z : Int32) (hn : nC σ < 10) : f_X9_addCustomer 142 x y z μ = some (0, sR μ 143 (wlc σ x y z)) := by
  have hs : σ 1 = nI (nC σ) := hI.s1
  have h6 := hI.n6
  have e0 : (142 : Int32) + 4 * nI (nC σ) = nI (142 + 4 * nC σ) := by
    show nI 142 + nI 4 * nI (nC σ) = _
    rw [nI_mul, nI_add]
  have e1 : nI (142 + 4 * nC σ) + 1 = nI (143 + 4 * nC σ) := by rw [nI_s]; congr 1; omega
  have e2 : nI (142 + 4 * nC σ) + 2 = nI (144 + 4 * nC σ) := by
    show nI (142 + 4 * nC σ) + nI 2 = _
    rw [nI_add]; congr 1; omega
  have e3 : nI (142 + 4 * nC σ) + 3 = nI (145 + 4 * nC σ) := by
    show nI (142 + 4 * nC σ) + nI 3 = _
    rw [nI_add]; congr 1; omega
  unfold f_X9_addCustomer
  rw [show inb (1 : Int32) 516 = true from by decide, gd_t, ix143 h, z1, hs, bnd_eq, e0, e1, e2, e3, inb_nI (k := 142 + 4 * nC σ) (by omega) (by omega), gd_t, bnd_eq, gd_nz (by decide), inb_nI (k := 143 + 4 * nC σ) (by omega) (by omega), gd_t, bnd_eq, gd_nz (by decide), inb_nI (k := 144 + 4 * nC σ) (by omega) (by omega), gd_t, bnd_eq, inb_nI (k := 145 + 4 * nC σ) (by omega) (by omega), gd_t, bnd_eq, gd_t, gd_t, bnd_eq, clamp_nI (k := 142 + 4 * nC σ) (by omega), clamp_nI (k := 143 + 4 * nC σ) (by omega), clamp_nI (k := 144 + 4 * nC σ) (by omega), clamp_nI (k := 145 + 4 * nC σ) (by omega), show (142 + 1 : Nat) = 143 from rfl]
  simp only [mset_sR, sR_sR, sR_same]
  rw [h]
  have hw : upd (upd (upd (upd σ (142 + 4 * nC σ) x) (143 + 4 * nC σ) (y / 10)) (144 + 4 * nC σ) (irm y 10)) (145 + 4 * nC σ) z = wl4 σ (nC σ) x y z := rfl
  rw [hw, show wl4 σ (nC σ) x y z 1 = nI (nC σ) from by rw [wl4_ne (by omega)]; exact hs, nI_s]
  rfl
section OPS5
variable {μ : Mem}
theorem sim_customer (h : Rel μ) (x y z : Int32) : Sm (f_X8_customer 0 x y z μ) (f_X9_customer 142 x y z) := by
  obtain ⟨h1, h2, h3⟩ := id h
  have h10 := h2.c10
  have hs := h2.s1
  by_cases c1 : cst x y z
  · by_cases c2 : nC (μ 143) = 10
    · rw [c2] at hs
      refine Sm.er h (k := 4) (by omega) ?_ (fun m e _ => ?_)
      · unfold f_X8_customer
        rw [cst8 μ c1, cal_some, if_neg (by decide), Nat.zero_add, rd_c h1, hs, if_neg (by decide)]
        exact cal_e _
      · unfold f_X9_customer
        rw [cst9 m c1, cal_some, if_neg (by decide), show inb (1 : Int32) 516 = true from by decide, gd_t, ix143 e, z1, hs, if_pos (by decide)]
        exact cal_e _
    · have hlt : nC (μ 143) < 10 := by omega
      obtain ⟨μ1, a1, r1, f1⟩ := welcome7 h1 h2 x y z hlt
      have hm := f1.c1 143 (by omega)
      have hn : nI (nC (μ 143)) < 10 := (nI_ltI (b := 10) (by omega) (by omega)).mpr hlt
      have hw1 : wlc (μ 143) x y z 1 = nI (nC (μ 143) + 1) := upd_same _ _ _
      have hX : f_X8_customer 0 x y z μ = some (nI (nC (μ 143) + 1) - 1, μ1) := by
        unfold f_X8_customer
        rw [cst8 μ c1, cal_some, if_neg (by decide), Nat.zero_add, rd_c h1, hs, if_pos hn, a1, cal_some, rd_c r1, hw1]
      refine Sm.mk h hX r1 f1.c1 (wlc_inv h2 hlt c1) ⟨sR μ1 143 (wlc (μ 143) x y z), ?_, sR_same _ _ _, FrM.s143 _ _⟩
      unfold f_X9_customer
      rw [cst9 μ1 c1, cal_some, if_neg (by decide), show inb (1 : Int32) 516 = true from by decide, gd_t, ix143 hm, z1, hs, if_neg (fun q => absurd (q ▸ hn) (by decide)), add9 hm h2 x y z hlt, cal_some, gd_t, show (142 + 1 : Nat) = 143 from rfl, sR_same, hw1]
  · refine Sm.er h (k := 1) (by omega) ?_ (fun m e _ => ?_)
    · unfold f_X8_customer
      rw [ncst8 μ c1, cal_some, if_pos rfl]
      exact cal_e _
    · unfold f_X9_customer
      rw [ncst9 m c1, cal_some, if_pos rfl]
      exact cal_e _
end OPS5
/-- fill -/
theorem fill5 {a N : Nat} (hN : N < 2 ^ 31) (v : Int32) : ∀ d i (μ : Mem) n, i + d = N → N ≤ 2000 → d < n → J7_fill_53178_L5 n a N v (nI i) (nI N) μ = some (0, sR μ a (fun j => if i ≤ j ∧ j < N then v else μ a j)) := by
  intro d
  induction d with
  | zero =>
    intro i μ n hi hN2 hn
    obtain ⟨n, rfl⟩ : ∃ m, n = m + 1 := ⟨n - 1, by omega⟩
    show J7_fill_53178_L5B _ a N v (nI i) (nI N) μ = _
    unfold J7_fill_53178_L5B
    rw [if_pos ((nI_leq (by omega) (by omega)).mpr (by omega))]
    have : (fun j => if i ≤ j ∧ j < N then v else μ a j) = μ a := funext (fun j => if_neg (by omega))
    rw [this, sR_id]
  | succ d ih =>
    intro i μ n hi hN2 hn
    obtain ⟨n, rfl⟩ : ∃ m, n = m + 1 := ⟨n - 1, by omega⟩
    show J7_fill_53178_L5B _ a N v (nI i) (nI N) μ = _
    unfold J7_fill_53178_L5B
    rw [if_neg (fun q => absurd ((nI_leq (by omega) (by omega)).mp q) (by omega)), inb_nI (by omega) hN2, gd_t, bnd_eq, bnd_eq, nI_s, clamp_nI (by omega), ih (i + 1) _ n (by omega) hN2 (by omega), mset_sR, sR_sR, sR_same]
    have hf : (fun j => if i + 1 ≤ j ∧ j < N then v else upd (μ a) i v j) = (fun j => if i ≤ j ∧ j < N then v else μ a j) := by
      funext j
      by_cases e : j = i
      · rw [e, if_neg (by omega), if_pos (by omega), upd_same]
      · rw [upd_ne e]
        by_cases q : i ≤ j ∧ j < N
        · rw [if_pos q, if_pos (by omega)]
        · rw [if_neg q, if_neg (by omega)]
    rw [hf]
theorem fill7 {a N : Nat} (hN : N < 900) (v : Int32) (μ : Mem) : f_J7_fill_53178 a N v μ = some (0, sR μ a (fun j => if j < N then v else μ a j)) := by
  have := fill5 (a := a) (N := N) (by omega) v N 0 μ FU (by omega) (by omega) (by rw [FU_eq]; omega)
  have hf : (fun j => if 0 ≤ j ∧ j < N then v else μ a j) = (fun j => if j < N then v else μ a j) := by
    funext j
    by_cases q : j < N
    · rw [if_pos q, if_pos ⟨Nat.zero_le j, q⟩]
    · rw [if_neg q, if_neg (fun x => q x.2)]
  rw [hf] at this
  exact this
