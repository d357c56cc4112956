/-! PURE 7: the model's fills and prices -/
theorem sidx0 (v : Int32) : sidx (nI 0) v = if (107 : Int32) = v then nI 0 else if (108 : Int32) = v then nI 1 else if (103 : Int32) = v then nI 2 else if (109 : Int32) = v then nI 3 else -1 := by
  unfold sidx
  rw [if_pos nI_0]
  rfl
theorem sidx1 (v : Int32) : sidx (nI 1) v = if (99 : Int32) = v then nI 0 else if (115 : Int32) = v then nI 1 else if (100 : Int32) = v then nI 2 else if (109 : Int32) = v then nI 3 else -1 := by
  unfold sidx
  rw [if_neg (by decide)]
  rfl
theorem nm_0 (a b c d : Int32) : nmI a b c d (nI 0) = a := rfl
theorem nm_1 (a b c d : Int32) : nmI a b c d (nI 1) = b := rfl
theorem nm_2 (a b c d : Int32) : nmI a b c d (nI 2) = c := rfl
theorem nm_3 (a b c d : Int32) : nmI a b c d (nI 3) = d := rfl
theorem hnm0 {F : Nat → Int32} {a b c d : Int32} (h1 : F 107 = a) (h2 : F 108 = b) (h3 : F 103 = c) (h4 : F 109 = d) (v : Int32) (hv : rg (sidx (nI 0) v) 0 3) : F v.toNatClampNeg = nmI a b c d (sidx (nI 0) v) := by
  rw [sidx0] at hv ⊢
  by_cases e1 : (107 : Int32) = v
  · rw [if_pos e1, nm_0, ← e1]; exact h1
  rw [if_neg e1] at hv ⊢
  by_cases e2 : (108 : Int32) = v
  · rw [if_pos e2, nm_1, ← e2]; exact h2
  rw [if_neg e2] at hv ⊢
  by_cases e3 : (103 : Int32) = v
  · rw [if_pos e3, nm_2, ← e3]; exact h3
  rw [if_neg e3] at hv ⊢
  by_cases e4 : (109 : Int32) = v
  · rw [if_pos e4, nm_3, ← e4]; exact h4
  rw [if_neg e4] at hv
  exact absurd hv.1 (by decide)
theorem hnm1 {F : Nat → Int32} {a b c d : Int32} (h1 : F 99 = a) (h2 : F 115 = b) (h3 : F 100 = c) (h4 : F 109 = d) (v : Int32) (hv : rg (sidx (nI 1) v) 0 3) : F v.toNatClampNeg = nmI a b c d (sidx (nI 1) v) := by
  rw [sidx1] at hv ⊢
  by_cases e1 : (99 : Int32) = v
  · rw [if_pos e1, nm_0, ← e1]; exact h1
  rw [if_neg e1] at hv ⊢
  by_cases e2 : (115 : Int32) = v
  · rw [if_pos e2, nm_1, ← e2]; exact h2
  rw [if_neg e2] at hv ⊢
  by_cases e3 : (100 : Int32) = v
  · rw [if_pos e3, nm_2, ← e3]; exact h3
  rw [if_neg e3] at hv ⊢
  by_cases e4 : (109 : Int32) = v
  · rw [if_pos e4, nm_3, ← e4]; exact h4
  rw [if_neg e4] at hv
  exact absurd hv.1 (by decide)
theorem hasText9 {μ : Mem} (hI : Inv (μ 143)) {u : Nat} (hu : u < 2) : f_X9_hasText 142 (nI u) μ = some (b2 (¬ μ 143 (182 + 125 * u) = 0), μ) := by
  have hr := rg0 (hI.tx hu)
  have e : (182 + 125 * nI u : Int32) = nI (182 + 125 * u) := by
    show nI 182 + nI 125 * nI u = _
    rw [nI_mul, nI_add]
  unfold f_X9_hasText X9_hasText_J21
  rw [show (142 + 1 : Nat) = 143 from rfl, e, inb_nI (by omega) (by omega), gd_t, clamp_nI (by omega)]
  by_cases c : μ 143 (182 + 125 * u) = 0
  · rw [if_pos (hr.mpr c), b2_f (fun q => q c)]; rfl
  · rw [if_neg (fun q => c (hr.mp q)), b2_t c]; rfl
theorem hasText90 {μ : Mem} (hI : Inv (μ 143)) : f_X9_hasText 142 0 μ = some (b2 (¬ μ 143 182 = 0), μ) := hasText9 hI (u := 0) (by omega)
theorem hasText91 {μ : Mem} (hI : Inv (μ 143)) : f_X9_hasText 142 1 μ = some (b2 (¬ μ 143 307 = 0), μ) := hasText9 hI (u := 1) (by omega)
theorem worked9 {μ : Mem} (hI : Inv (μ 143)) {u : Nat} (hu : u < 2) (hn : ¬ μ 143 (182 + 125 * u) = 0) {a b c d : Int32} (hnm : ∀ v, rg (sidx (nI u) v) 0 3 → μ 148 v.toNatClampNeg = nmI a b c d (sidx (nI u) v)) : ∃ f, f_X9_worked 142 (nI u) μ = some (valT (nI u) a b c d (txt (μ 143) u), sR μ 149 f) := by
  have hT := hI.text u hu
  have hc := rg_clamp (n := 60) (hI.tx hu) (by omega)
  have hp : 0 < (μ 143 (182 + 125 * u)).toNatClampNeg := by
    rcases Nat.eq_zero_or_pos (μ 143 (182 + 125 * u)).toNatClampNeg with q | q
    · rw [q] at hc
      exact absurd hc.2 hn
    · exact q
  have e : (182 + 125 * nI u : Int32) = nI (182 + 125 * u) := by
    show nI 182 + nI 125 * nI u = _
    rw [nI_mul, nI_add]
  obtain ⟨f, hf⟩ := worked_loop hu hT a b c d (N := (μ 143 (182 + 125 * u)).toNatClampNeg) rfl hc.1 hp (μ 143 (182 + 125 * u)).toNatClampNeg 0 μ FU (by omega) (by rw [FU_eq]; omega) (fun j hj => rfl) hnm (fun j hj => by simp [runT] at hj)
  refine ⟨f, ?_⟩
  unfold f_X9_worked
  rw [bnd_eq, e]
  exact hf
theorem ten9 (g : Nat) : ((10 : Int32) + nI g) = nI (10 + g) := by
  show nI 10 + nI g = _
  rw [nI_add]
theorem nine9 (g : Nat) : ((9 : Int32) + nI g) = nI (9 + g) := by
  show nI 9 + nI g = _
  rw [nI_add]
theorem three9 (g : Nat) : ((3 : Int32) + nI g) = nI (3 + g) := by
  show nI 3 + nI g = _
  rw [nI_add]
theorem its9_0 {μ : Mem} {k : Nat} (h : k < 6) : f_X9_its 142 (nI k) 0 μ = some (μ 143 (16 + 21 * k), μ) := by
  have := its9' (μ := μ) (k := k) (x := 0) (j := 0) rfl (by omega)
  exact this
theorem its9_1 {μ : Mem} {k : Nat} (h : k < 6) : f_X9_its 142 (nI k) 1 μ = some (μ 143 (17 + 21 * k), μ) := by
  have := its9' (μ := μ) (k := k) (x := 1) (j := 1) rfl (by omega)
  rwa [show 16 + 21 * k + 1 = 17 + 21 * k by omega] at this
theorem its9_k {μ : Mem} {k g : Nat} (h : k < 6) (hg : g < 6) : f_X9_its 142 (nI k) (3 + nI g) μ = some (μ 143 (19 + 21 * k + g), μ) := by
  have := its9' (μ := μ) (k := k) (j := 3 + g) (three9 g) (by omega)
  rwa [show 16 + 21 * k + (3 + g) = 19 + 21 * k + g by omega] at this
theorem its9_s {μ : Mem} {k g : Nat} (h : k < 6) (hg : g < 6) : f_X9_its 142 (nI k) (9 + nI g) μ = some (μ 143 (25 + 21 * k + g), μ) := by
  have := its9' (μ := μ) (k := k) (j := 9 + g) (nine9 g) (by omega)
  rwa [show 16 + 21 * k + (9 + g) = 25 + 21 * k + g by omega] at this
theorem its9_2 {μ : Mem} {k : Nat} (h : k < 6) : f_X9_its 142 (nI k) 2 μ = some (μ 143 (18 + 21 * k), μ) := by
  have := its9' (μ := μ) (k := k) (x := 2) (j := 2) rfl (by omega)
  rwa [show 16 + 21 * k + 2 = 18 + 21 * k by omega] at this
theorem lays9_s {μ : Mem} {k g : Nat} (h : k < 6) (hg : g < 6) (v : Int32) : f_X9_lays1 142 (nI k) (9 + nI g) v μ = some (0, sR μ 143 (upd (μ 143) (25 + 21 * k + g) v)) := by
  have := lays9' (μ := μ) (k := k) (j := 9 + g) (nine9 g) (by omega) v
  rwa [show 16 + 21 * k + (9 + g) = 25 + 21 * k + g by omega] at this
theorem lays9_k {μ : Mem} {k g : Nat} (h : k < 6) (hg : g < 6) (v : Int32) : f_X9_lays1 142 (nI k) (3 + nI g) v μ = some (0, sR μ 143 (upd (μ 143) (19 + 21 * k + g) v)) := by
  have := lays9' (μ := μ) (k := k) (j := 3 + g) (three9 g) (by omega) v
  rwa [show 16 + 21 * k + (3 + g) = 19 + 21 * k + g by omega] at this
/-- a number that lies in its bounds isn't held back -/
theorem fil_rg {σ : Nat → Int32} (hI : Inv σ) {k g : Nat} (hk : k < nS σ) (hg : g < 6) : rg (fil σ k g) 0 99 := by
  obtain ⟨h1, h2, h3, h4, h5⟩ := hI.shop k hk
  obtain ⟨n, hn, he⟩ := rg_nI (n := 9) (h4 g hg) (by omega)
  obtain ⟨m, hm, hem⟩ := rg_nI (n := 9) h2 (by omega)
  have hl : lac σ k g = nI n ∨ lac σ k g = 0 := by
    unfold lac
    rw [he]
    split
    · exact Or.inl rfl
    · exact Or.inr rfl
  have d1 : ∀ n, n ≤ 9 → (0 ≤ (nI n / 2).toInt ∧ (nI n / 2).toInt ≤ 99) ∧ (0 ≤ (imin 1 (nI n)).toInt ∧ (imin 1 (nI n)).toInt ≤ 99) ∧ (0 ≤ (nI n).toInt ∧ (nI n).toInt ≤ 99) := by decide +kernel
  have d2 : ∀ n, n ≤ 9 → ∀ m, m ≤ 9 → 0 ≤ (nI n + nI m).toInt ∧ (nI n + nI m).toInt ≤ 99 := by decide +kernel
  have hz : rg 0 0 99 := by unfold rg; decide
  unfold fil
  rw [he, hem]
  split
  · rcases hl with q | q <;> rw [q]
    · exact (d1 n hn).2.2
    · exact hz
  split
  · exact (d1 n hn).1
  split
  · exact (d1 n hn).2.1
  split
  · split
    · exact hz
    · rcases hl with q | q <;> rw [q]
      · exact d2 n hn m hm
      · have := d2 0 (by omega) m hm
        exact this
  split
  · exact (d1 n hn).1
  split
  · split
    · exact (d1 n hn).2.2
    · exact hld_rg (by decide)
  · exact (d1 n hn).2.2
theorem prc_rg {σ : Nat → Int32} (hI : Inv σ) {k g : Nat} (hk : k < nS σ) (hg : g < 6) : rg (prc σ k g) 0 999 := by
  obtain ⟨h1, h2, h3, h4, h5⟩ := hI.shop k hk
  obtain ⟨n, hn, he⟩ := rg_nI (n := 99) (hI.cost g hg) (by omega)
  obtain ⟨m, hm, hem⟩ := rg_nI (n := 9) h2 (by omega)
  have d1 : ∀ n, n ≤ 99 → (0 ≤ (2 * nI n).toInt ∧ (2 * nI n).toInt ≤ 999) ∧ (0 ≤ (3 * nI n).toInt ∧ (3 * nI n).toInt ≤ 999) := by decide +kernel
  have d2 : ∀ n, n ≤ 99 → ∀ m, m ≤ 9 → 0 ≤ (2 * nI n + nI m).toInt ∧ (2 * nI n + nI m).toInt ≤ 999 := by decide +kernel
  unfold prc
  rw [he, hem]
  split
  · exact d2 n hn m hm
  split
  · exact (d1 n hn).2
  split
  · exact (d1 n hn).2
  split
  · exact d2 n hn m hm
  split
  · split
    · exact (d1 n hn).1
    · exact hld_rg (by decide)
  · exact (d1 n hn).1
theorem held99 {σ : Nat → Int32} (hI : Inv σ) {k g : Nat} (hk : k < nS σ) (hg : g < 6) {v : Int32} (hv : fil σ k g = v) (μ : Mem) : X9_fillsOf_J143 v μ = some (fil σ k g, μ) := by
  unfold X9_fillsOf_J143
  rw [held_eq, cal_some, ← hv, hld_id (fil_rg hI hk hg)]
theorem held999 {σ : Nat → Int32} (hI : Inv σ) {k g : Nat} (hk : k < nS σ) (hg : g < 6) {v : Int32} (hv : prc σ k g = v) (μ : Mem) : X9_priceOf_J90 v μ = some (prc σ k g, μ) := by
  unfold X9_priceOf_J90
  rw [held_eq, cal_some, ← hv, hld_id (prc_rg hI hk hg)]
theorem k107 : (107 : Int32).toNatClampNeg = 107 ∧ (108 : Int32).toNatClampNeg = 108 ∧ (103 : Int32).toNatClampNeg = 103 ∧ (109 : Int32).toNatClampNeg = 109 ∧ (99 : Int32).toNatClampNeg = 99 ∧ (115 : Int32).toNatClampNeg = 115 ∧ (100 : Int32).toNatClampNeg = 100 ∧ (2 : Int32).toNatClampNeg = 2 := by decide
theorem b107 : inb (107 : Int32) 128 = true ∧ inb (108 : Int32) 128 = true ∧ inb (103 : Int32) 128 = true ∧ inb (109 : Int32) 128 = true ∧ inb (99 : Int32) 128 = true ∧ inb (115 : Int32) 128 = true ∧ inb (100 : Int32) 128 = true ∧ inb (2 : Int32) 516 = true := by decide
/-- the model's text of fills, with its names laid -/
theorem told62 {μ : Mem} {σ : Nat → Int32} (hσ : μ 143 = σ) (hI : Inv σ) {k g : Nat} (hk : k < nS σ) (hg : g < 6) (hn : ¬ σ 182 = 0) (ha : μ 148 107 = σ (19 + 21 * k + g)) (v : Int32) : ∃ μ', X9_fillsTold_J62 142 (nI k) (nI g) 148 108 v μ = some (valT (nI 0) (σ (19 + 21 * k + g)) v (nI g) (σ (17 + 21 * k)) (txt σ 0), μ') ∧ ScM μ μ' := by
  have h6 := hI.n6
  unfold X9_fillsTold_J62
  rw [show (142 + 6 : Nat) = 148 from rfl, b107.2.1, gd_t, bnd_eq, b107.2.2.1, gd_t, bnd_eq, k107.2.1, k107.2.2.1, mset_sR, mset_sR, sR_same, sR_sR, its9_1 (by omega), cal_some, b107.2.2.2.1, gd_t, bnd_eq, k107.2.2.2.1, mset_sR, sR_same, sR_sR, sR_ne (by omega), hσ]
  have h0 : (sR μ 148 (upd (upd (upd (μ 148) 108 v) 103 (nI g)) 109 (σ (17 + 21 * k)))) 143 = σ := by rw [sR_ne (by omega)]; exact hσ
  obtain ⟨f, hf⟩ := worked9 (μ := sR μ 148 (upd (upd (upd (μ 148) 108 v) 103 (nI g)) 109 (σ (17 + 21 * k)))) (by rw [h0]; exact hI) (u := 0) (by omega) (by rw [h0]; exact hn) (a := σ (19 + 21 * k + g)) (b := v) (c := nI g) (d := σ (17 + 21 * k)) (fun x hx => by
    rw [sR_same]
    exact hnm0 (by rw [upd_ne (by omega), upd_ne (by omega), upd_ne (by omega)]; exact ha) (by rw [upd_ne (by omega), upd_ne (by omega), upd_same]) (by rw [upd_ne (by omega), upd_same]) (by rw [upd_same]) x hx)
  rw [h0] at hf
  rw [show (0 : Int32) = nI 0 from rfl, hf, cal_some]
  exact ⟨_, rfl, (sR_Sc148 _ _).tr (sR_Sc149 _ _)⟩
theorem fillsOf9 {μ : Mem} {σ : Nat → Int32} (hσ : μ 143 = σ) (hI : Inv σ) {k g : Nat} (hk : k < nS σ) (hg : g < 6) : ∃ μ', f_X9_fillsOf 142 (nI k) (nI g) μ = some (fil σ k g, μ') ∧ ScM μ μ' := by
  have h6 := hI.n6
  have hlo := lft_ok hk
  obtain ⟨s1, s2, s3, s4, s5⟩ := hI.shop k hk
  have hIm : Inv (μ 143) := by rw [hσ]; exact hI
  have hlom : okO (μ 143) (lft (μ 143) k) := by rw [hσ]; exact hlo
  have hkm : k < nS (μ 143) := by rw [hσ]; exact hk
  unfold f_X9_fillsOf
  rw [its9_k (by omega) hg, cal_some, show nI k = eO (some k) from rfl, left9 hIm (o := some k) (fun j hj => by cases hj; exact hkm), cal_some]
  show ∃ μ', cal (f_X9_lacks1 142 (eO (lft (μ 143) k)) (nI g) 9 μ) _ = _ ∧ _
  rw [lacks9 hIm hlom hg, cal_some, hσ]
  have hlac : (if b2 (sO σ (lft σ k) g = 0) = 0 then X9_fillsOf_J29 142 (eO (some k)) (nI g) (σ (19 + 21 * k + g)) 0 μ else X9_fillsOf_J29 142 (eO (some k)) (nI g) (σ (19 + 21 * k + g)) (σ (19 + 21 * k + g)) μ) = X9_fillsOf_J29 142 (nI k) (nI g) (σ (19 + 21 * k + g)) (lac σ k g) μ := by
    unfold lac
    by_cases c : sO σ (lft σ k) g = 0
    · rw [b2_t c, if_neg (by decide), if_pos c]; rfl
    · rw [b2_f c, if_pos rfl, if_neg c]; rfl
  rw [hlac]
  unfold X9_fillsOf_J29 X9_fillsOf_J87 X9_fillsOf_J104 X9_fillsOf_J127
  rw [its9_0 (by omega), cal_some, hσ]
  by_cases c1 : σ (16 + 21 * k) = 1
  · rw [if_pos c1, held99 hI hk hg (by unfold fil; rw [if_pos c1])]
    exact ⟨μ, rfl, ScM.rf μ⟩
  rw [if_neg c1]
  by_cases c2 : σ (16 + 21 * k) = 2
  · rw [if_pos c2, gd_nz (by decide), bnd_eq, held99 hI hk hg (by unfold fil; rw [if_neg c1, if_pos c2])]
    exact ⟨μ, rfl, ScM.rf μ⟩
  rw [if_neg c2]
  by_cases c3 : σ (16 + 21 * k) = 3
  · rw [if_pos c3]
    obtain ⟨n, hn, he⟩ := rg_nI (n := 9) (s4 g hg) (by omega)
    have d1 : ∀ n, n ≤ 9 → imin 1 (nI n) = if nI n ≤ 0 then 0 else 1 := by decide +kernel
    have hf : fil σ k g = if σ (19 + 21 * k + g) ≤ 0 then 0 else 1 := by unfold fil; rw [if_neg c1, if_neg c2, if_pos c3, he, d1 n hn]
    by_cases c : σ (19 + 21 * k + g) ≤ 0
    · rw [if_pos c] at hf ⊢
      rw [held99 hI hk hg hf]
      exact ⟨μ, rfl, ScM.rf μ⟩
    · rw [if_neg c] at hf ⊢
      rw [held99 hI hk hg hf]
      exact ⟨μ, rfl, ScM.rf μ⟩
  rw [if_neg c3]
  by_cases c4 : σ (16 + 21 * k) = 4
  · rw [if_pos c4]
    have hl : rg (lac σ k g) 0 9 := by
      unfold lac
      split
      · exact s4 g hg
      · unfold rg; decide
    by_cases c : lac σ k g = 0
    · rw [if_pos ((rg0 hl).mpr c), held99 hI hk hg (by unfold fil; rw [if_neg c1, if_neg c2, if_neg c3, if_pos c4, if_pos c])]
      exact ⟨μ, rfl, ScM.rf μ⟩
    · rw [if_neg (fun q => c ((rg0 hl).mp q)), its9_1 (by omega), cal_some, hσ, held99 hI hk hg (by unfold fil; rw [if_neg c1, if_neg c2, if_neg c3, if_pos c4, if_neg c])]
      exact ⟨μ, rfl, ScM.rf μ⟩
  rw [if_neg c4]
  by_cases c5 : σ (16 + 21 * k) = 5
  · rw [if_pos c5, gd_nz (by decide), bnd_eq, held99 hI hk hg (by unfold fil; rw [if_neg c1, if_neg c2, if_neg c3, if_neg c4, if_pos c5])]
    exact ⟨μ, rfl, ScM.rf μ⟩
  rw [if_neg c5]
  by_cases c6 : σ (16 + 21 * k) = 6
  · rw [if_pos c6]
    unfold f_X9_fillsTold
    rw [hasText90 hIm, cal_some, hσ]
    by_cases d1 : σ 182 = 0
    · rw [b2_f (fun q => q d1), if_pos rfl, its9_k (by omega) hg, cal_some, cal_some, hσ, held99 hI hk hg (by unfold fil; rw [if_neg c1, if_neg c2, if_neg c3, if_neg c4, if_neg c5, if_pos c6, if_pos d1])]
      exact ⟨μ, rfl, ScM.rf μ⟩
    · rw [b2_t d1, if_neg (by decide), show f_X9_left 142 (nI k) μ = some (eO (lft (μ 143) k), μ) from left9 hIm (o := some k) (fun j hj => by cases hj; exact hkm), cal_some, its9_k (by omega) hg, cal_some, b107.1, gd_t, bnd_eq, k107.1, show (142 + 6 : Nat) = 148 from rfl, mset_sR, hσ]
      have h0 : ∀ f, (sR μ 148 f) 143 = σ := fun f => by rw [sR_ne (by omega)]; exact hσ
      have hfin : ∀ (r : Int32) (m : Mem), m 143 = σ → ScM μ m → r = valT (nI 0) (σ (19 + 21 * k + g)) (sO σ (lft σ k) g) (nI g) (σ (17 + 21 * k)) (txt σ 0) → ∃ μ', X9_fillsOf_J143 r m = some (fil σ k g, μ') ∧ ScM μ μ' := by
        intro r m hm hs hr
        refine ⟨m, ?_, hs⟩
        unfold X9_fillsOf_J143 fil
        rw [held_eq, cal_some, if_neg c1, if_neg c2, if_neg c3, if_neg c4, if_neg c5, if_pos c6, if_neg d1, hr]
      cases hl : lft σ k with
      | none =>
        rw [show eO none = (-1 : Int32) from rfl, if_pos rfl]
        obtain ⟨m, e1, e2⟩ := told62 (h0 (upd (μ 148) 107 (σ (19 + 21 * k + g)))) hI hk hg d1 (by rw [sR_same, upd_same]) 0
        rw [e1, cal_some]
        refine hfin _ _ ?_ ((sR_Sc148 _ _).tr e2) (by rw [hl]; rfl)
        rw [e2 143 (by omega) (by omega)]; exact h0 _
      | some j =>
        have hj := hlo j hl
        rw [show eO (some j) = nI j from rfl, if_neg (nI_nm1 (by omega)), its9_s (by omega) hg, cal_some, h0]
        obtain ⟨m, e1, e2⟩ := told62 (h0 (upd (μ 148) 107 (σ (19 + 21 * k + g)))) hI hk hg d1 (by rw [sR_same, upd_same]) (σ (25 + 21 * j + g))
        rw [e1, cal_some]
        refine hfin _ _ ?_ ((sR_Sc148 _ _).tr e2) (by rw [hl]; rfl)
        rw [e2 143 (by omega) (by omega)]; exact h0 _
  · rw [if_neg c6, held99 hI hk hg (by unfold fil; rw [if_neg c1, if_neg c2, if_neg c3, if_neg c4, if_neg c5, if_neg c6])]
    exact ⟨μ, rfl, ScM.rf μ⟩
theorem priceOf9 {μ : Mem} {σ : Nat → Int32} (hσ : μ 143 = σ) (hI : Inv σ) {k g : Nat} (hk : k < nS σ) (hg : g < 6) : ∃ μ', f_X9_priceOf 142 (nI k) (nI g) μ = some (prc σ k g, μ') ∧ ScM μ μ' := by
  have h6 := hI.n6
  have hIm : Inv (μ 143) := by rw [hσ]; exact hI
  unfold f_X9_priceOf X9_priceOf_J56 X9_priceOf_J71
  rw [ten9, inb_nI (by omega) (by omega), gd_t, clamp_nI (by omega), show (142 + 1 : Nat) = 143 from rfl, bnd_eq, bnd_eq, its9_0 (by omega), cal_some, its9_1 (by omega), cal_some, bnd_eq, bnd_eq, hσ]
  by_cases c2 : σ (16 + 21 * k) = 2
  · rw [if_pos c2, held999 hI hk hg (by unfold prc; rw [if_pos c2])]
    exact ⟨μ, rfl, ScM.rf μ⟩
  rw [if_neg c2]
  by_cases c3 : σ (16 + 21 * k) = 3
  · rw [if_pos c3, held999 hI hk hg (by unfold prc; rw [if_neg c2, if_pos c3])]
    exact ⟨μ, rfl, ScM.rf μ⟩
  rw [if_neg c3]
  by_cases c4 : σ (16 + 21 * k) = 4
  · rw [if_pos c4, held999 hI hk hg (by unfold prc; rw [if_neg c2, if_neg c3, if_pos c4])]
    exact ⟨μ, rfl, ScM.rf μ⟩
  rw [if_neg c4]
  by_cases c5 : σ (16 + 21 * k) = 5
  · rw [if_pos c5, held999 hI hk hg (by unfold prc; rw [if_neg c2, if_neg c3, if_neg c4, if_pos c5])]
    exact ⟨μ, rfl, ScM.rf μ⟩
  rw [if_neg c5]
  by_cases c6 : σ (16 + 21 * k) = 6
  · rw [if_pos c6]
    unfold f_X9_priceTold
    rw [hasText91 hIm, cal_some, hσ]
    by_cases d1 : σ 307 = 0
    · rw [b2_f (fun q => q d1), if_pos rfl, ten9, inb_nI (by omega) (by omega), gd_t, clamp_nI (by omega), cal_some, held999 hI hk hg (by unfold prc; rw [if_neg c2, if_neg c3, if_neg c4, if_neg c5, if_pos c6, if_pos d1])]
      exact ⟨μ, rfl, ScM.rf μ⟩
    · have h1 : ∀ f, (sR μ 148 f) 143 = σ := fun f => by rw [sR_ne (by omega)]; exact hσ
      obtain ⟨-, -, -, b4, b5, b6, b7, b8⟩ := b107
      obtain ⟨-, -, -, k4, k5, k6, k7, k8⟩ := k107
      rw [b2_t d1, if_neg (by decide), ten9, inb_nI (by omega) (by omega), gd_t, clamp_nI (by omega), b5, gd_t, bnd_eq, k5, show (142 + 6 : Nat) = 148 from rfl, mset_sR, its9_s (by omega) hg, cal_some, h1]
      simp only [b6, b7, b8, gd_t, bnd_eq, k6, k7, k8, mset_sR, sR_sR, sR_same]
      rw [its9_1 (by omega), cal_some, h1]
      simp only [b4, gd_t, bnd_eq, k4, mset_sR, sR_sR, sR_same]
      rw [h1]
      have h0 : ∀ f, (sR μ 148 f) 143 = σ := fun f => by rw [sR_ne (by omega)]; exact hσ
      generalize hF : upd (upd (upd (upd (μ 148) 99 (σ (10 + g))) 115 (σ (25 + 21 * k + g))) 100 (σ 2)) 109 (σ (17 + 21 * k)) = F
      obtain ⟨f, hf⟩ := worked9 (μ := sR μ 148 F) (by rw [h0]; exact hI) (u := 1) (by omega) (by rw [h0]; exact d1) (a := σ (10 + g)) (b := σ (25 + 21 * k + g)) (c := σ 2) (d := σ (17 + 21 * k)) (fun x hx => by
        rw [sR_same, ← hF]
        exact hnm1 (by rw [upd_ne (by omega), upd_ne (by omega), upd_ne (by omega), upd_same]) (by rw [upd_ne (by omega), upd_ne (by omega), upd_same]) (by rw [upd_ne (by omega), upd_same]) (by rw [upd_same]) x hx)
      rw [h0] at hf
      rw [show f_X9_worked 142 1 (sR μ 148 F) = _ from hf, cal_some, cal_some]
      unfold X9_priceOf_J90 prc
      rw [held_eq, cal_some, if_neg c2, if_neg c3, if_neg c4, if_neg c5, if_pos c6, if_neg d1]
      exact ⟨_, rfl, (sR_Sc148 _ _).tr (sR_Sc149 _ _)⟩
  · rw [if_neg c6, held999 hI hk hg (by unfold prc; rw [if_neg c2, if_neg c3, if_neg c4, if_neg c5, if_neg c6])]
    exact ⟨μ, rfl, ScM.rf μ⟩
