/-! PURE 2: reading and writing a World -/
theorem mset_ne {μ : Mem} {l i a b : Nat} {v : Int32} (h : ¬ (a = l ∧ b = i)) : mset μ l i v a b = μ a b := if_neg h
theorem RepX.wr {μ : Mem} {w : Nat} {σ : Nat → Int32} {P : Nat → Prop} (h : RepX μ w σ P) {i : Nat} {p : Nat × Nat} (hi : am i = some p) (v : Int32) : RepX (mset μ (w + p.1) p.2 v) w (upd σ i v) (fun j => P j ∨ j = i) := by
  intro j q hj hP
  by_cases hij : j = i
  · subst hij
    have : q = p := Option.some.inj (hj.symm.trans hi)
    subst this
    rw [mset_self, upd_same]
  · rw [upd_ne hij, mset_ne (fun e => hij ?_)]
    · exact h j q hj (hP.resolve_right hij)
    · have : q = p := Prod.ext (by omega) e.2
      subst this
      exact am_inj hj hi
theorem RepX.mono {μ : Mem} {w : Nat} {σ : Nat → Int32} {P Q : Nat → Prop} (h : RepX μ w σ P) (hQ : ∀ i, Q i → P i) : RepX μ w σ Q := fun i p hi hq => h i p hi (hQ i hq)
theorem HadR.wr {μ : Mem} {w : Nat} {σ : Nat → Int32} (h : HadR μ w σ) (hn : nS σ ≤ 6) {i : Nat} {p : Nat × Nat} (hi : am i = some p) (h0 : i ≠ 0) (v : Int32) : HadR (mset μ (w + p.1) p.2 v) w (upd σ i v) := by
  have hs : nS (upd σ i v) = nS σ := by unfold nS; rw [upd_ne (fun e => h0 e.symm)]
  intro k hk g hg
  rw [hs] at hk
  obtain ⟨a1, a2, a3, a4, a5⟩ := am_bk hi
  rw [mset_ne (fun e => ?_), upd_ne (fun e => ?_)]
  · exact h k hk g hg
  · have := a4 (by omega) (by omega)
    omega
  · have := a5 (by omega) (by omega) (by omega)
    omega
theorem TxtR.wr {μ : Mem} {w : Nat} {σ : Nat → Int32} (h : TxtR μ w σ) (hT : ∀ u, u < 2 → (σ (182 + 125 * u)).toNatClampNeg ≤ 60) {i : Nat} {p : Nat × Nat} (hi : am i = some p) (v : Int32) : TxtR (mset μ (w + p.1) p.2 v) w (upd σ i v) := by
  obtain ⟨a1, a2, a3, a4, a5⟩ := am_bk hi
  intro u hu
  have e1 : upd σ i v (182 + 125 * u) = σ (182 + 125 * u) := upd_ne (by omega)
  have hle := hT u hu
  rw [e1]
  refine ⟨?_, fun j hj => ?_⟩
  · rw [mset_ne (by omega)]
    exact (h u hu).1
  · rw [mset_ne (by omega), upd_ne (by omega), upd_ne (by omega)]
    exact (h u hu).2 j hj
theorem Inv.t60 {σ : Nat → Int32} (h : Inv σ) : ∀ u, u < 2 → (σ (182 + 125 * u)).toNatClampNeg ≤ 60 := by
  intro u hu
  have := (h.2.2.2.2.2.2.2.2.2.1 u hu).1
  exact (rg_clamp (n := 60) this (by omega)).1
theorem Inv.n6 {σ : Nat → Int32} (h : Inv σ) : nS σ ≤ 6 := (rg_clamp (n := 6) h.1 (by omega)).1
theorem Inv.s0 {σ : Nat → Int32} (h : Inv σ) : σ 0 = nI (nS σ) := (rg_clamp (n := 6) h.1 (by omega)).2
theorem Inv.c10 {σ : Nat → Int32} (h : Inv σ) : nC σ ≤ 10 := (rg_clamp (n := 10) h.2.1 (by omega)).1
theorem Inv.s1 {σ : Nat → Int32} (h : Inv σ) : σ 1 = nI (nC σ) := (rg_clamp (n := 10) h.2.1 (by omega)).2
theorem Inv.T60 {σ : Nat → Int32} (h : Inv σ) : nT σ ≤ 60 := (rg_clamp (n := 60) h.2.2.2.2.1 (by omega)).1
theorem Inv.s6 {σ : Nat → Int32} (h : Inv σ) : σ 6 = nI (nT σ) := (rg_clamp (n := 60) h.2.2.2.2.1 (by omega)).2
theorem Inv.w24 {σ : Nat → Int32} (h : Inv σ) : nW σ ≤ 24 := (rg_clamp (n := 24) h.2.2.2.2.2.1 (by omega)).1
theorem Inv.s7 {σ : Nat → Int32} (h : Inv σ) : σ 7 = nI (nW σ) := (rg_clamp (n := 24) h.2.2.2.2.2.1 (by omega)).2
theorem Inv.ring {σ : Nat → Int32} (h : Inv σ) : rg (σ 4) 0 1 := h.2.2.1
theorem Inv.law {σ : Nat → Int32} (h : Inv σ) : rg (σ 5) 0 2 := h.2.2.2.1
theorem Inv.cost {σ : Nat → Int32} (h : Inv σ) : ∀ g, g < 6 → rg (σ (10 + g)) 0 99 := h.2.2.2.2.2.2.1
theorem Inv.shop {σ : Nat → Int32} (h : Inv σ) : ∀ k, k < nS σ → ShopOk σ k := h.2.2.2.2.2.2.2.1
theorem Inv.cust {σ : Nat → Int32} (h : Inv σ) : ∀ c, c < nC σ → CustOk σ c := h.2.2.2.2.2.2.2.2.1
theorem Inv.text {σ : Nat → Int32} (h : Inv σ) : ∀ u, u < 2 → TextOk u (txt σ u) := h.2.2.2.2.2.2.2.2.2.1
theorem Inv.tape {σ : Nat → Int32} (h : Inv σ) : ∀ i, i < nT σ → rg (σ (432 + i)) 0 255 := h.2.2.2.2.2.2.2.2.2.2
theorem lve_upd {σ : Nat → Int32} {i : Nat} {v : Int32} (h0 : i ≠ 0) (h1 : i ≠ 1) (h6 : i ≠ 6) (h7 : i ≠ 7) : lve (upd σ i v) = lve σ := by
  unfold lve nS nC nT nW
  rw [upd_ne (fun e => h0 e.symm), upd_ne (fun e => h1 e.symm), upd_ne (fun e => h6 e.symm), upd_ne (fun e => h7 e.symm)]
/-- a number that isn't a count -/
theorem RepW.wr {μ : Mem} {w : Nat} {σ : Nat → Int32} (h : RepW μ w σ) (hI : Inv σ) {i : Nat} {p : Nat × Nat} (hi : am i = some p) (h0 : i ≠ 0) (h1 : i ≠ 1) (h6 : i ≠ 6) (h7 : i ≠ 7) (v : Int32) : RepW (mset μ (w + p.1) p.2 v) w (upd σ i v) := by
  refine ⟨?_, h.2.1.wr hI.n6 hi h0 v, h.2.2.wr hI.t60 hi v⟩
  rw [lve_upd h0 h1 h6 h7]
  exact (h.1.wr hi v).mono (fun j hj => Or.inl hj)
theorem FrW.rf (w : Nat) (μ : Mem) : FrW w μ μ := fun _ _ => rfl
theorem FrW.tr {w : Nat} {a b c : Mem} (h1 : FrW w a b) (h2 : FrW w b c) : FrW w a c := fun l hl => (h2 l hl).trans (h1 l hl)
theorem FrW.ms {w : Nat} {μ : Mem} {a j : Nat} {v : Int32} (ha : a < 41) : FrW w μ (mset μ (w + a) j v) := by
  intro l hl
  funext b
  exact mset_ne (by omega)
-- places
theorem am_kind : ∀ k, k < 6 → am (16 + 21 * k) = some (7 + 3 * k, 0) := by decide +kernel
theorem am_m : ∀ k, k < 6 → am (17 + 21 * k) = some (7 + 3 * k, 1) := by decide +kernel
theorem am_purse : ∀ k, k < 6 → am (18 + 21 * k) = some (7 + 3 * k, 2) := by decide +kernel
theorem am_keeps : ∀ k, k < 6 → ∀ g, g < 6 → am (19 + 21 * k + g) = some (8 + 3 * k, g) := by decide +kernel
theorem am_stock : ∀ k, k < 6 → ∀ g, g < 6 → am (25 + 21 * k + g) = some (9 + 3 * k, g) := by decide +kernel
theorem am_cost : ∀ g, g < 6 → am (10 + g) = some (1, g) := by decide +kernel
theorem am_cust : ∀ c, c < 10 → ∀ j, j < 4 → am (142 + 4 * c + j) = some (25 + c, j) := by decide +kernel
theorem am_tape : ∀ i, i < 60 → am (432 + i) = some (5, i) := by decide +kernel
theorem am_wait : ∀ i, i < 24 → am (492 + i) = some (6, i) := by decide +kernel
section RD
variable {μ : Mem} {w : Nat} {σ : Nat → Int32}
theorem lve_lo (σ : Nat → Int32) {i : Nat} (h : i < 16) : lve σ i := ⟨fun a _ => absurd a (by omega), fun a _ => absurd a (by omega), fun a _ => absurd a (by omega), fun a => absurd a (by omega)⟩
theorem lve_sh {i : Nat} (h1 : 16 ≤ i) (h2 : i < 142) (h : (i - 16) / 21 < nS σ) : lve σ i := ⟨fun _ _ => h, fun a _ => absurd a (by omega), fun a _ => absurd a (by omega), fun a => absurd a (by omega)⟩
theorem lve_cu {i : Nat} (h1 : 142 ≤ i) (h2 : i < 182) (h : (i - 142) / 4 < nC σ) : lve σ i := ⟨fun _ a => absurd a (by omega), fun _ _ => h, fun a _ => absurd a (by omega), fun a => absurd a (by omega)⟩
theorem rd_n (h : RepW μ w σ) : μ w 4 = σ 0 := h.1 0 (0, 4) rfl (lve_lo σ (by omega))
theorem rd_c (h : RepW μ w σ) : μ w 6 = σ 1 := h.1 1 (0, 6) rfl (lve_lo σ (by omega))
theorem rd_days (h : RepW μ w σ) : μ w 7 = σ 2 := h.1 2 (0, 7) rfl (lve_lo σ (by omega))
theorem rd_sales (h : RepW μ w σ) : μ w 8 = σ 3 := h.1 3 (0, 8) rfl (lve_lo σ (by omega))
theorem rd_ring (h : RepW μ w σ) : μ w 1 = σ 4 := h.1 4 (0, 1) rfl (lve_lo σ (by omega))
theorem rd_law (h : RepW μ w σ) : μ w 2 = σ 5 := h.1 5 (0, 2) rfl (lve_lo σ (by omega))
theorem rd_taped (h : RepW μ w σ) : μ w 12 = σ 6 := h.1 6 (0, 12) rfl (lve_lo σ (by omega))
theorem rd_waits (h : RepW μ w σ) : μ w 14 = σ 7 := h.1 7 (0, 14) rfl (lve_lo σ (by omega))
theorem rd_z (h : RepW μ w σ) : μ w 9 = σ 8 := h.1 8 (0, 9) rfl (lve_lo σ (by omega))
theorem rd_cost (h : RepW μ w σ) {g : Nat} (hg : g < 6) : μ (w + 1) g = σ (10 + g) := h.1 _ _ (am_cost g hg) (lve_lo σ (by omega))
theorem rd_kind (h : RepW μ w σ) (hI : Inv σ) {k : Nat} (hk : k < nS σ) : μ (w + 7 + 3 * k) 0 = σ (16 + 21 * k) := by
  have h6 := hI.n6
  have := h.1 _ _ (am_kind k (by omega)) (lve_sh (by omega) (by omega) (by omega))
  rwa [← Nat.add_assoc] at this
theorem rd_m (h : RepW μ w σ) (hI : Inv σ) {k : Nat} (hk : k < nS σ) : μ (w + 7 + 3 * k) 1 = σ (17 + 21 * k) := by
  have h6 := hI.n6
  have := h.1 _ _ (am_m k (by omega)) (lve_sh (by omega) (by omega) (by omega))
  rwa [← Nat.add_assoc] at this
theorem rd_purse (h : RepW μ w σ) (hI : Inv σ) {k : Nat} (hk : k < nS σ) : μ (w + 7 + 3 * k) 2 = σ (18 + 21 * k) := by
  have h6 := hI.n6
  have := h.1 _ _ (am_purse k (by omega)) (lve_sh (by omega) (by omega) (by omega))
  rwa [← Nat.add_assoc] at this
theorem rd_keeps (h : RepW μ w σ) (hI : Inv σ) {k g : Nat} (hk : k < nS σ) (hg : g < 6) : μ (w + 8 + 3 * k) g = σ (19 + 21 * k + g) := by
  have h6 := hI.n6
  have := h.1 _ _ (am_keeps k (by omega) g hg) (lve_sh (by omega) (by omega) (by omega))
  rwa [← Nat.add_assoc] at this
theorem rd_stock (h : RepW μ w σ) (hI : Inv σ) {k g : Nat} (hk : k < nS σ) (hg : g < 6) : μ (w + 9 + 3 * k) g = σ (25 + 21 * k + g) := by
  have h6 := hI.n6
  have := h.1 _ _ (am_stock k (by omega) g hg) (lve_sh (by omega) (by omega) (by omega))
  rwa [← Nat.add_assoc] at this
theorem rd_cust (h : RepW μ w σ) (hI : Inv σ) {c j : Nat} (hc : c < nC σ) (hj : j < 4) : μ (w + 25 + c) j = σ (142 + 4 * c + j) := by
  have h6 := hI.c10
  have := h.1 _ _ (am_cust c (by omega) j hj) (lve_cu (by omega) (by omega) (by omega))
  rwa [← Nat.add_assoc] at this
theorem wr_purse (h : RepW μ w σ) (hI : Inv σ) {k : Nat} (hk : k < 6) (v : Int32) : RepW (mset μ (w + 7 + 3 * k) 2 v) w (upd σ (18 + 21 * k) v) := by
  have := h.wr hI (am_purse k hk) (by omega) (by omega) (by omega) (by omega) v
  rwa [← Nat.add_assoc] at this
theorem wr_stock (h : RepW μ w σ) (hI : Inv σ) {k g : Nat} (hk : k < 6) (hg : g < 6) (v : Int32) : RepW (mset μ (w + 9 + 3 * k) g v) w (upd σ (25 + 21 * k + g) v) := by
  have := h.wr hI (am_stock k hk g hg) (by omega) (by omega) (by omega) (by omega) v
  rwa [← Nat.add_assoc] at this
theorem wr_keeps (h : RepW μ w σ) (hI : Inv σ) {k g : Nat} (hk : k < 6) (hg : g < 6) (v : Int32) : RepW (mset μ (w + 8 + 3 * k) g v) w (upd σ (19 + 21 * k + g) v) := by
  have := h.wr hI (am_keeps k hk g hg) (by omega) (by omega) (by omega) (by omega) v
  rwa [← Nat.add_assoc] at this
end RD
