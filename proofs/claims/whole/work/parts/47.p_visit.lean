/-! PURE 12: a customer goes along -/
def want (W G : Int32) (g : Nat) : Bool := decide (isr W (nI g) &&& 1 = 1) && decide (isr G (nI g) &&& 1 = 0)
theorem want_all : ∀ W, W ≤ 63 → ∀ G, G ≤ 63 → (List.range 6).all (fun g => decide ((((nI W &&& (nI G ^^^ (-1))) &&& isl 1 (nI g)) = 0) ↔ want (nI W) (nI G) g = false)) = true := by decide +kernel
theorem want_or : ∀ G, G ≤ 63 → (List.range 6).all (fun g => decide (0 ≤ (nI G ||| isl 1 (nI g)).toInt ∧ (nI G ||| isl 1 (nI g)).toInt ≤ 63)) = true := by decide +kernel
theorem want_self : ∀ W, W ≤ 63 → (List.range 6).all (fun g => !(want (nI W) (nI W) g)) = true := by decide +kernel
theorem want_iff {W G : Int32} (hW : rg W 0 63) (hG : rg G 0 63) {g : Nat} (hg : g < 6) : (((W &&& (G ^^^ (-1))) &&& isl 1 (nI g)) = 0) ↔ want W G g = false := by
  obtain ⟨a, ha, rfl⟩ := rg_nI (n := 63) hW (by omega)
  obtain ⟨b, hb, rfl⟩ := rg_nI (n := 63) hG (by omega)
  exact of_decide_eq_true (List.all_eq_true.mp (want_all a ha b hb) g (List.mem_range.mpr hg))
theorem or_rg {G : Int32} (hG : rg G 0 63) {g : Nat} (hg : g < 6) : rg (G ||| isl 1 (nI g)) 0 63 := by
  obtain ⟨b, hb, rfl⟩ := rg_nI (n := 63) hG (by omega)
  have := of_decide_eq_true (List.all_eq_true.mp (want_or b hb) g (List.mem_range.mpr hg))
  exact this
theorem want_same {W : Int32} (hW : rg W 0 63) {g : Nat} (hg : g < 6) : want W W g = false := by
  obtain ⟨a, ha, rfl⟩ := rg_nI (n := 63) hW (by omega)
  have := List.all_eq_true.mp (want_self a ha) g (List.mem_range.mpr hg)
  simpa using this
/-- a sale -/
def sold (σ : Nat → Int32) (k g : Nat) : Nat → Int32 := gts (upd σ (25 + 21 * k + g) (stk σ k g - 1)) k (prc σ k g)
abbrev VS : Type := (Nat → Int32) × Int32 × Int32
def buyG (W : Int32) (k g : Nat) (s : VS) : VS := if want W s.2.2 g = true ∧ may s.1 k g = true ∧ ¬ s.2.1 < prc s.1 k g then (sold s.1 k g, s.2.1 - prc s.1 k g, s.2.2 ||| isl 1 (nI g)) else s
def atShop (W : Int32) (k : Nat) : Nat → Nat → VS → VS
  | 0, _, s => s
  | d + 1, g, s => atShop W k d (g + 1) (buyG W k g s)
/-- what stays as a customer goes along -/
def VOk (σ0 : Nat → Int32) (s : VS) : Prop := Inv s.1 ∧ nS s.1 = nS σ0 ∧ (∀ i, i < 16 ∨ 142 ≤ i → s.1 i = σ0 i) ∧ rg s.2.2 0 63
theorem dec_rg {x : Int32} (h : rg x 0 99) (h0 : ¬ x = 0) : rg (x - 1) 0 99 := by
  obtain ⟨a, ha, rfl⟩ := rg_nI (n := 99) h (by omega)
  have : 0 < a := by
    rcases Nat.eq_zero_or_pos a with q | q
    · exact absurd (by rw [q]; rfl) h0
    · exact q
  rw [nI_pred1 this]
  exact nI_rg (n := 99) (by omega) (by omega)
theorem may_stk {σ : Nat → Int32} {k g : Nat} (h : may σ k g = true) : ¬ stk σ k g = 0 := by
  unfold may at h
  rw [Bool.and_eq_true] at h
  exact of_decide_eq_true h.1
theorem sold_ok {σ : Nat → Int32} (hI : Inv σ) {k g : Nat} (hk : k < nS σ) (hg : g < 6) (hm : may σ k g = true) : Inv (upd σ (25 + 21 * k + g) (stk σ k g - 1)) ∧ Inv (sold σ k g) ∧ nS (sold σ k g) = nS σ ∧ ∀ i, i < 16 ∨ 142 ≤ i → sold σ k g i = σ i := by
  have h6 := hI.n6
  have h1 : Inv (upd σ (25 + 21 * k + g) (stk σ k g - 1)) := hI.uStock (by omega) hg (dec_rg ((hI.shop k hk).2.2.2.2 g hg) (may_stk hm))
  refine ⟨h1, gts_inv h1 (by omega) _, ?_, fun i hi => ?_⟩
  · unfold sold
    rw [gts_nS]
    unfold nS
    rw [upd_ne (by omega)]
  · unfold sold
    rw [gts_ne (by omega), upd_ne (by omega)]
theorem buyG_ok {σ0 : Nat → Int32} {W : Int32} {k g : Nat} {s : VS} (h : VOk σ0 s) (hk : k < nS σ0) (hg : g < 6) : VOk σ0 (buyG W k g s) := by
  obtain ⟨a, b, c, d⟩ := h
  unfold buyG
  split
  · rename_i q
    obtain ⟨-, a2, b2, c2⟩ := sold_ok a (k := k) (by omega) hg q.2.1
    exact ⟨a2, b2.trans b, fun i hi => (c2 i hi).trans (c i hi), or_rg d hg⟩
  · exact ⟨a, b, c, d⟩
theorem atShop_ok {σ0 : Nat → Int32} {W : Int32} {k : Nat} (hk : k < nS σ0) : ∀ d g (s : VS), g + d = 6 → VOk σ0 s → VOk σ0 (atShop W k d g s) := by
  intro d
  induction d with
  | zero => intro g s _ h; exact h
  | succ d ih => intro g s hg h; exact ih (g + 1) _ (by omega) (buyG_ok h hk (by omega))
theorem atShop_full {W : Int32} (hW : rg W 0 63) {k : Nat} : ∀ d g (s : VS), g + d = 6 → s.2.2 = W → atShop W k d g s = s := by
  intro d
  induction d with
  | zero => intro g s _ _; rfl
  | succ d ih =>
    intro g s hg hs
    have : buyG W k g s = s := by
      unfold buyG
      rw [hs, if_neg (fun q => by rw [want_same hW (by omega)] at q; exact absurd q.1 (by decide))]
    show atShop W k d (g + 1) (buyG W k g s) = s
    rw [this]
    exact ih (g + 1) s (by omega) hs
section VIS7
variable {w c : Nat} {σ0 : Nat → Int32}
/-- the class at one shop -/
theorem shop7 (hI0 : Inv σ0) (hc : c < nC σ0) {k : Nat} (hk : k < nS σ0) (k53 : Nat → Nat → Int32 → Int32 → Int32 → Int32 → Mem → Res) (x3 x6 : Int32) : ∀ d g (μ : Mem) (s : VS) n, g + d = 6 → d < n → RepW μ w s.1 → VOk σ0 s →
    ∃ μ', X7_goAlong_L83 k53 n w (w + 25 + c) x3 s.2.1 s.2.2 x6 (nI k) (nI g) μ = k53 w (w + 25 + c) x3 (atShop (σ0 (142 + 4 * c)) k d g s).2.1 (atShop (σ0 (142 + 4 * c)) k d g s).2.2 (x6 + 1) μ' ∧ RepW μ' w (atShop (σ0 (142 + 4 * c)) k d g s).1 ∧ FrW w μ μ' := by
  have h6 := hI0.n6
  have hW : rg (σ0 (142 + 4 * c)) 0 63 := (hI0.cust c hc).1
  intro d
  induction d with
  | zero =>
    intro g μ s n hg hn h hs
    obtain ⟨n, rfl⟩ : ∃ m, n = m + 1 := ⟨n - 1, by omega⟩
    refine ⟨μ, ?_, h, FrW.rf w μ⟩
    show X7_goAlong_L83B k53 _ w (w + 25 + c) x3 s.2.1 s.2.2 x6 (nI k) (nI g) μ = _
    unfold X7_goAlong_L83B
    rw [if_pos ((six_le (by omega)).mpr (by omega)), bnd_eq]
    rfl
  | succ d ih =>
    intro g μ s n hg hn h hs
    obtain ⟨n, rfl⟩ : ∃ m, n = m + 1 := ⟨n - 1, by omega⟩
    obtain ⟨hI, hn0, ho, hr⟩ := hs
    have hcn : nC s.1 = nC σ0 := by unfold nC; rw [ho 1 (by omega)]
    have hwant : μ (w + 25 + c) 0 = σ0 (142 + 4 * c) := by
      have := rd_cust h hI (c := c) (j := 0) (by omega) (by omega)
      rw [this]
      exact ho _ (by omega)
    have skip : ∀ μ1, RepW μ1 w s.1 → FrW w μ μ1 → ∃ μ', X7_goAlong_L83 k53 n w (w + 25 + c) x3 s.2.1 s.2.2 x6 (nI k) (nI (g + 1)) μ1 = k53 w (w + 25 + c) x3 (atShop (σ0 (142 + 4 * c)) k d (g + 1) s).2.1 (atShop (σ0 (142 + 4 * c)) k d (g + 1) s).2.2 (x6 + 1) μ' ∧ RepW μ' w (atShop (σ0 (142 + 4 * c)) k d (g + 1) s).1 ∧ FrW w μ μ' := by
      intro μ1 r1 f1
      obtain ⟨m, a, b, e⟩ := ih (g + 1) μ1 s n (by omega) (by omega) r1 ⟨hI, hn0, ho, hr⟩
      exact ⟨m, a, b, f1.tr e⟩
    show ∃ μ', X7_goAlong_L83B k53 (X7_goAlong_L83 k53 n) w (w + 25 + c) x3 s.2.1 s.2.2 x6 (nI k) (nI g) μ = k53 w (w + 25 + c) x3 (atShop (σ0 (142 + 4 * c)) k d (g + 1) (buyG (σ0 (142 + 4 * c)) k g s)).2.1 (atShop (σ0 (142 + 4 * c)) k d (g + 1) (buyG (σ0 (142 + 4 * c)) k g s)).2.2 (x6 + 1) μ' ∧ RepW μ' w (atShop (σ0 (142 + 4 * c)) k d (g + 1) (buyG (σ0 (142 + 4 * c)) k g s)).1 ∧ FrW w μ μ'
    unfold X7_goAlong_L83B X7_goAlong_J180
    rw [if_neg (fun q => absurd ((six_le (by omega)).mp q) (by omega)), hwant]
    have hwi := want_iff hW hr (g := g) (by omega)
    by_cases c1 : want (σ0 (142 + 4 * c)) s.2.2 g = true
    · rw [if_neg (fun q => by rw [hwi.mp q] at c1; cases c1), maySell7 h hI (k := k) (by omega) (by omega), cal_some]
      by_cases c2 : may s.1 k g = true
      · rw [b2_t c2, if_neg (by decide)]
        obtain ⟨μ1, e1, r1, f1⟩ := priceOf7 h hI (k := k) (g := g) (by omega) (by omega)
        rw [e1, cal_some]
        by_cases c3 : s.2.1 < prc s.1 k g
        · rw [if_pos c3, bnd_eq, nI_s]
          have hb : buyG (σ0 (142 + 4 * c)) k g s = s := by unfold buyG; rw [if_neg (fun q => q.2.2 c3)]
          rw [hb]
          exact skip μ1 r1 f1
        · rw [if_neg c3]
          have hb : buyG (σ0 (142 + 4 * c)) k g s = (sold s.1 k g, s.2.1 - prc s.1 k g, s.2.2 ||| isl 1 (nI g)) := by unfold buyG; rw [if_pos ⟨c1, c2, c3⟩]
          obtain ⟨i1, i2, i3, i4⟩ := sold_ok hI (k := k) (g := g) (by omega) (by omega) c2
          have hnu : nS (upd s.1 (25 + 21 * k + g) (stk s.1 k g - 1)) = nS s.1 := by unfold nS; rw [upd_ne (by omega)]
          have r2 := wr_stock r1 hI (k := k) (g := g) (by omega) (by omega) (stk s.1 k g - 1)
          have f2 : FrW w μ1 (mset μ1 (w + 9 + 3 * k) g (stk s.1 k g - 1)) := FrW.m9 (by omega)
          obtain ⟨μ3, e3, r3, f3⟩ := earn5 r2 i1 (k := k) (by rw [hnu]; omega) (prc s.1 k g)
          obtain ⟨m, a, b, e⟩ := ih (g + 1) μ3 (sold s.1 k g, s.2.1 - prc s.1 k g, s.2.2 ||| isl 1 (nI g)) n (by omega) (by omega) r3 ⟨i2, i3.trans hn0, fun i hi => (i4 i hi).trans (ho i hi), or_rg hr (by omega)⟩
          rw [hb]
          refine ⟨m, ?_, b, ((f1.tr f2).tr f3).tr e⟩
          rw [inb_nI (k := k) (by omega) (by omega), gd_t, inb_nI (k := g) (by omega) (by omega), gd_t, gd_t, clamp_nI (k := k) (by omega), clamp_nI (k := g) (by omega), locA, locC, rd_stock r1 hI (k := k) (by omega) (by omega), bnd_eq, gd_t]
          rw [show f_X5_earn (w + 7 + 3 * k) (prc s.1 k g) (mset μ1 (w + 9 + 3 * k) g (s.1 (25 + 21 * k + g) - 1)) = some (0, μ3) from e3, cal_some, bnd_eq, bnd_eq, bnd_eq, nI_s]
          exact a
      · rw [b2_f c2, if_pos rfl, bnd_eq, nI_s]
        have hb : buyG (σ0 (142 + 4 * c)) k g s = s := by unfold buyG; rw [if_neg (fun q => c2 q.2.1)]
        rw [hb]
        exact skip μ h (FrW.rf w μ)
    · rw [if_pos (hwi.mpr (by simpa using c1)), bnd_eq, nI_s]
      have hb : buyG (σ0 (142 + 4 * c)) k g s = s := by unfold buyG; rw [if_neg (fun q => c1 q.1)]
      rw [hb]
      exact skip μ h (FrW.rf w μ)
end VIS7
