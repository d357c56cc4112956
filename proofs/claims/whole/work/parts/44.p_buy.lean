/-! PURE 9: one buys the left one out -/
def bo3 (σ : Nat → Int32) (k l g : Nat) (p : Int32) : Nat → Int32 := upd (gts (gts σ k (-p)) l p) (25 + 21 * l + g) 0
def bout (σ : Nat → Int32) (k l g : Nat) : Nat → Int32 := upd (bo3 σ k l g (stk σ l g * prc σ l g)) (25 + 21 * k + g) (imin 99 (bo3 σ k l g (stk σ l g * prc σ l g) (25 + 21 * k + g) + stk σ l g))
theorem FrW.m9 {w k j : Nat} {μ : Mem} {v : Int32} (hk : k < 6) : FrW w μ (mset μ (w + 9 + 3 * k) j v) := by
  rw [Nat.add_assoc]
  exact FrW.ms (by omega)
theorem imin_hld {x y : Int32} (hx : rg x 0 99) (hy : rg y 0 99) : hld (x + y) 0 99 = imin 99 (x + y) ∧ rg (imin 99 (x + y)) 0 99 := by
  obtain ⟨a, ha, rfl⟩ := rg_nI (n := 99) hx (by omega)
  obtain ⟨b, hb, rfl⟩ := rg_nI (n := 99) hy (by omega)
  rw [nI_add]
  have d : ∀ n, n ≤ 198 → hld (nI n) 0 99 = imin 99 (nI n) ∧ (0 ≤ (imin 99 (nI n)).toInt ∧ (imin 99 (nI n)).toInt ≤ 99) := by decide +kernel
  exact d (a + b) (by omega)
theorem bout_pre {σ : Nat → Int32} (hI : Inv σ) {k l g : Nat} (hk : k < nS σ) (hl : l < nS σ) (hg : g < 6) (p : Int32) : Inv (bo3 σ k l g p) ∧ nS (bo3 σ k l g p) = nS σ := by
  have h6 := hI.n6
  refine ⟨((gts_inv (gts_inv hI (by omega) _) (by omega) _).uStock (by omega) hg (by unfold rg; decide)), ?_⟩
  have h1 := gts_nS (gts σ k (-p)) l p
  have h2 := gts_nS σ k (-p)
  unfold nS bo3 at *
  rw [upd_ne (by omega), h1, h2]
theorem bout_inv {σ : Nat → Int32} (hI : Inv σ) {k l g : Nat} (hk : k < nS σ) (hl : l < nS σ) (hg : g < 6) : Inv (bout σ k l g) ∧ nS (bout σ k l g) = nS σ := by
  have h6 := hI.n6
  obtain ⟨a, b⟩ := bout_pre hI hk hl hg (stk σ l g * prc σ l g)
  unfold bout
  refine ⟨a.uStock (by omega) hg ?_, ?_⟩
  · exact (imin_hld ((a.shop k (by omega)).2.2.2.2 g hg) ((hI.shop l hl).2.2.2.2 g hg)).2
  · unfold nS at b ⊢
    rw [upd_ne (by omega)]
    exact b
theorem bout_ne {σ : Nat → Int32} {k l g i : Nat} (h : i < 16 ∨ 142 ≤ i) (hk : k < 6) (hl : l < 6) (hg : g < 6) : bout σ k l g i = σ i := by
  unfold bout bo3
  rw [upd_ne (by omega), upd_ne (by omega), gts_ne (by omega), gts_ne (by omega)]
theorem buyOut7 {w k l g : Nat} {μ : Mem} {σ : Nat → Int32} (h : RepW μ w σ) (hI : Inv σ) (hk : k < nS σ) (hl : l < nS σ) (hg : g < 6) : PW w μ (f_X7_buyOut w (nI k) (nI l) (nI g) μ) 0 (bout σ k l g) := by
  have h6 := hI.n6
  obtain ⟨μ1, e1, r1, f1⟩ := priceOf7 h hI hl hg
  generalize hp : stk σ l g * prc σ l g = p
  obtain ⟨μ2, e2, r2, f2⟩ := earn5 r1 hI hk (-p)
  have hI2 := gts_inv hI (k := k) (by omega) (-p)
  obtain ⟨μ3, e3, r3, f3⟩ := earn5 r2 hI2 (k := l) (by rw [gts_nS]; exact hl) p
  have hI3 := gts_inv hI2 (k := l) (by omega) p
  have r4 := wr_stock r3 hI3 (k := l) (g := g) (by omega) hg 0
  obtain ⟨hI4, n4⟩ := bout_pre hI hk hl hg p
  have f4 : FrW w μ3 (mset μ3 (w + 9 + 3 * l) g 0) := FrW.m9 (by omega)
  have r4 : RepW (mset μ3 (w + 9 + 3 * l) g 0) w (bo3 σ k l g p) := r4
  have rk := rd_stock r4 hI4 (k := k) (by omega) hg
  generalize hv : imin 99 ((bo3 σ k l g p) (25 + 21 * k + g) + stk σ l g) = v
  have r5 := wr_stock r4 hI4 (k := k) (g := g) (by omega) hg v
  have f5 : FrW w (mset μ3 (w + 9 + 3 * l) g 0) (mset (mset μ3 (w + 9 + 3 * l) g 0) (w + 9 + 3 * k) g v) := FrW.m9 (by omega)
  refine ⟨_, ?_, ?_, (((f1.tr f2).tr f3).tr f4).tr f5⟩
  · unfold f_X7_buyOut
    rw [inb_nI (k := l) (by omega) (by omega), gd_t, inb_nI (k := g) hg (by omega), gd_t, clamp_nI (k := l) (by omega), clamp_nI (k := g) (by omega), clamp_nI (k := k) (by omega), locA, locA, locC, locC, rd_stock h hI hl hg, bnd_eq, e1, cal_some, bnd_eq, inb_nI (k := k) (by omega) (by omega), gd_t]
    rw [show σ (25 + 21 * l + g) * prc σ l g = p from hp, e2, cal_some, gd_t, e3, cal_some, gd_t, gd_t, bnd_eq, gd_t, gd_t, gd_t, gd_t, bnd_eq, rk]
    rw [show imin 99 ((bo3 σ k l g p) (25 + 21 * k + g) + σ (25 + 21 * l + g)) = v from hv]
  · have : bout σ k l g = upd (bo3 σ k l g p) (25 + 21 * k + g) v := by
      unfold bout
      rw [hp, hv]
    rw [this]
    exact r5
theorem buysOut9 {k l g : Nat} {μ : Mem} {σ : Nat → Int32} (h : μ 143 = σ) (hI : Inv σ) (hk : k < nS σ) (hl : lft σ k = some l) (hg : g < 6) : PM μ (f_X9_buysOut 142 (nI k) (nI g) μ) 0 (bout σ k l g) := by
  have h6 := hI.n6
  have hlk := lft_ok hk l hl
  have hleft : f_X9_left 142 (nI k) μ = some (nI l, μ) := by
    have := left9 (μ := μ) (by rw [h]; exact hI) (o := some k) (fun j hj => by cases hj; rw [h]; exact hk)
    rw [show ((some k).bind (lft (μ 143))) = some l from by rw [h]; exact hl] at this
    exact this
  obtain ⟨μ1, e1, f1⟩ := priceOf9 h hI hlk hg
  have h1 : μ1 143 = σ := by rw [f1.s3]; exact h
  generalize hp : stk σ l g * prc σ l g = p
  have e2 := gets9 (μ := μ1) (by rw [h1]; exact hI) (k := k) (by omega) (-p)
  rw [h1] at e2
  have hI2 := gts_inv hI (k := k) (by omega) (-p)
  have e3 := gets9 (μ := sR μ1 143 (gts σ k (-p))) (by rw [sR_same]; exact hI2) (k := l) (by omega) p
  rw [sR_same, sR_sR] at e3
  obtain ⟨hI4, n4⟩ := bout_pre hI hk hlk hg p
  have e4 := lays9_s (μ := sR μ1 143 (gts (gts σ k (-p)) l p)) (k := l) (g := g) (by omega) hg 0
  rw [sR_same, sR_sR, show upd (gts (gts σ k (-p)) l p) (25 + 21 * l + g) 0 = bo3 σ k l g p from rfl] at e4
  generalize hv : imin 99 ((bo3 σ k l g p) (25 + 21 * k + g) + stk σ l g) = v
  have e5 := its9_s (μ := sR μ1 143 (bo3 σ k l g p)) (k := k) (g := g) (by omega) hg
  rw [sR_same] at e5
  have e6 := lays9_s (μ := sR μ1 143 (bo3 σ k l g p)) (k := k) (g := g) (by omega) hg v
  rw [sR_same, sR_sR] at e6
  have hh := (imin_hld ((hI4.shop k (by omega)).2.2.2.2 g hg) ((hI.shop l hlk).2.2.2.2 g hg)).1
  refine ⟨_, ?_, ?_, f1.G.tr (FrG.s _ (bout σ k l g))⟩
  · unfold f_X9_buysOut
    rw [hleft, cal_some, its9_s (by omega) hg, cal_some, e1, cal_some, bnd_eq, h]
    rw [show σ (25 + 21 * l + g) * prc σ l g = p from hp, e2, cal_some, e3, cal_some, e4, cal_some, e5, cal_some, held_eq, cal_some, hh]
    rw [show imin 99 ((bo3 σ k l g p) (25 + 21 * k + g) + σ (25 + 21 * l + g)) = v from hv, e6, cal_some]
    have : bout σ k l g = upd (bo3 σ k l g p) (25 + 21 * k + g) v := by
      unfold bout
      rw [hp, hv]
    rw [this]
  · rw [sR_same]
/-- which good is bought out first -/
def gtb (σ : Nat → Int32) (k l : Nat) : Nat → Nat → Option Nat
  | 0, _ => none
  | d + 1, i => if ¬ stk σ k i = 0 ∧ ((1 : Int32) ≤ stk σ l i ∧ stk σ l i ≤ σ (17 + 21 * k)) then some i else gtb σ k l d (i + 1)
theorem gtb_lt {σ : Nat → Int32} {k l : Nat} : ∀ d i g, i + d = 6 → gtb σ k l d i = some g → g < 6 := by
  intro d
  induction d with
  | zero => intro i g _ h; cases h
  | succ d ih =>
    intro i g hi h
    unfold gtb at h
    split at h
    · cases h; omega
    · exact ih (i + 1) g (by omega) h
theorem goodLoop7 {w k l : Nat} {μ : Mem} {σ : Nat → Int32} (h : RepW μ w σ) (hI : Inv σ) (hk : k < nS σ) (hl : l < nS σ) : ∀ d i n, i + d = 6 → d < n → X7_goodToBuy_L35 n w (w + 7 + 3 * k) (nI l) (nI i) μ = some (eO (gtb σ k l d i), μ) := by
  have h6 := hI.n6
  intro d
  induction d with
  | zero =>
    intro i n hi hn
    obtain ⟨n, rfl⟩ : ∃ m, n = m + 1 := ⟨n - 1, by omega⟩
    show X7_goodToBuy_L35B _ w (w + 7 + 3 * k) (nI l) (nI i) μ = _
    unfold X7_goodToBuy_L35B
    rw [if_pos ((six_le (by omega)).mpr (by omega))]
    rfl
  | succ d ih =>
    intro i n hi hn
    obtain ⟨n, rfl⟩ : ∃ m, n = m + 1 := ⟨n - 1, by omega⟩
    have ihn := ih (i + 1) n (by omega) (by omega)
    show X7_goodToBuy_L35B (X7_goodToBuy_L35 n) w (w + 7 + 3 * k) (nI l) (nI i) μ = _
    unfold X7_goodToBuy_L35B X7_goodToBuy_J78 gtb
    rw [if_neg (fun q => absurd ((six_le (by omega)).mp q) (by omega)), inb_nI (k := i) (by omega) (by omega), gd_t, gd_t, inb_nI (k := l) (by omega) (by omega), gd_t, clamp_nI (k := i) (by omega), clamp_nI (k := l) (by omega), locA, locC, locC, rd_stock h hI hk (by omega), rd_stock h hI hl (by omega), rd_m h hI hk, within_eq, cal_some, bnd_eq, nI_s, ihn]
    have hs : rg (stk σ k i) 0 99 := (hI.shop k hk).2.2.2.2 i (by omega)
    by_cases c1 : stk σ k i = 0
    · rw [if_pos ((rg0 hs).mpr c1), if_neg (fun q => q.1 c1)]
    · rw [if_neg (fun q => c1 ((rg0 hs).mp q))]
      by_cases c2 : (1 : Int32) ≤ σ (25 + 21 * l + i) ∧ σ (25 + 21 * l + i) ≤ σ (17 + 21 * k)
      · rw [b2_t c2, if_neg (by decide), if_pos ⟨c1, c2⟩]
        rfl
      · rw [b2_f c2, if_pos rfl, if_neg (fun q => c2 q.2)]
def buy1 (σ : Nat → Int32) (k : Nat) : Nat → Int32 := if σ (16 + 21 * k) = 5 then (match lft σ k with
    | none => σ
    | some l => if l = k then σ else (match gtb σ k l 6 0 with
      | none => σ
      | some g => bout σ k l g)) else σ
theorem buy1_n {σ : Nat → Int32} {k : Nat} (h : ¬ σ (16 + 21 * k) = 5) : buy1 σ k = σ := if_neg h
theorem buy1_0 {σ : Nat → Int32} {k : Nat} (h : σ (16 + 21 * k) = 5) (hl : lft σ k = none) : buy1 σ k = σ := by
  unfold buy1
  rw [if_pos h, hl]
theorem buy1_1 {σ : Nat → Int32} {k : Nat} (h : σ (16 + 21 * k) = 5) (hl : lft σ k = some k) : buy1 σ k = σ := by
  unfold buy1
  rw [if_pos h, hl]
  exact if_pos rfl
theorem buy1_2 {σ : Nat → Int32} {k l : Nat} (h : σ (16 + 21 * k) = 5) (hl : lft σ k = some l) (hn : ¬ l = k) (hg : gtb σ k l 6 0 = none) : buy1 σ k = σ := by
  unfold buy1
  rw [if_pos h, hl]
  show (if l = k then σ else _) = σ
  rw [if_neg hn, hg]
theorem buy1_3 {σ : Nat → Int32} {k l g : Nat} (h : σ (16 + 21 * k) = 5) (hl : lft σ k = some l) (hn : ¬ l = k) (hg : gtb σ k l 6 0 = some g) : buy1 σ k = bout σ k l g := by
  unfold buy1
  rw [if_pos h, hl]
  show (if l = k then σ else _) = _
  rw [if_neg hn, hg]
theorem buy1_or (σ : Nat → Int32) (k : Nat) : buy1 σ k = σ ∨ ∃ l g, lft σ k = some l ∧ gtb σ k l 6 0 = some g ∧ buy1 σ k = bout σ k l g := by
  by_cases h : σ (16 + 21 * k) = 5
  · cases hl : lft σ k with
    | none => exact Or.inl (buy1_0 h hl)
    | some l =>
      by_cases hn : l = k
      · subst hn
        exact Or.inl (buy1_1 h hl)
      · cases hg : gtb σ k l 6 0 with
        | none => exact Or.inl (buy1_2 h hl hn hg)
        | some g => exact Or.inr ⟨l, g, rfl, hg, buy1_3 h hl hn hg⟩
  · exact Or.inl (buy1_n h)
theorem buy1_ok {σ : Nat → Int32} (hI : Inv σ) {k : Nat} (hk : k < nS σ) : Inv (buy1 σ k) ∧ nS (buy1 σ k) = nS σ ∧ ∀ i, i < 16 ∨ 142 ≤ i → buy1 σ k i = σ i := by
  have h6 := hI.n6
  rcases buy1_or σ k with e | ⟨l, g, hl, hg, e⟩
  · rw [e]
    exact ⟨hI, rfl, fun _ _ => rfl⟩
  · have hlk := lft_ok hk l hl
    have hg6 := gtb_lt 6 0 g (by omega) hg
    obtain ⟨a, b⟩ := bout_inv hI hk hlk hg6
    rw [e]
    exact ⟨a, b, fun i hi => bout_ne hi (by omega) (by omega) hg6⟩
theorem nI_neg {k : Nat} (h : k < 2 ^ 31) : ¬ nI k < 0 := Int32.not_lt.mpr (nI_pos' h)
/-- the class: which good, and then buying out -/
theorem buy7 {w k : Nat} {μ : Mem} {σ : Nat → Int32} (h : RepW μ w σ) (hI : Inv σ) (hk : k < nS σ) : ∃ o, f_X7_goodToBuy w (nI k) μ = some (eO o, μ) ∧ (o = none → buy1 σ k = σ) ∧ ∀ g, o = some g → ∃ l, g < 6 ∧ lft σ k = some l ∧ buy1 σ k = bout σ k l g := by
  have h6 := hI.n6
  have hunf : f_X7_goodToBuy w (nI k) μ = (if σ (16 + 21 * k) = 5 then (if eO (lft σ k) < 0 then some (-1, μ) else if eO (lft σ k) = nI k then some (-1, μ) else X7_goodToBuy_L35 FU w (w + 7 + 3 * k) (eO (lft σ k)) 0 μ) else some (-1, μ)) := by
    unfold f_X7_goodToBuy X7_goodToBuy_J30
    rw [inb_nI (by omega) (by omega), gd_t, leftOf7 h hI hk, cal_some, clamp_nI (by omega), locA, rd_kind h hI hk]
  rw [hunf]
  by_cases c : σ (16 + 21 * k) = 5
  · rw [if_pos c]
    cases hl : lft σ k with
    | none =>
      rw [show eO none = (-1 : Int32) from rfl, if_pos (by decide)]
      exact ⟨none, rfl, fun _ => buy1_0 c hl, fun g hg => by cases hg⟩
    | some l =>
      have hlk := lft_ok hk l hl
      rw [show eO (some l) = nI l from rfl, if_neg (nI_neg (by omega))]
      by_cases e : l = k
      · subst e
        rw [if_pos rfl]
        exact ⟨none, rfl, fun _ => buy1_1 c hl, fun g hg => by cases hg⟩
      · rw [if_neg (fun q => e (nI_inj q (by omega) (by omega)))]
        have hg := goodLoop7 h hI hk hlk 6 0 FU (by omega) (by decide)
        refine ⟨gtb σ k l 6 0, hg, fun hn => buy1_2 c hl e hn, fun g hg => ⟨l, gtb_lt 6 0 g (by omega) hg, rfl, buy1_3 c hl e hg⟩⟩
  · rw [if_neg c]
    exact ⟨none, rfl, fun _ => buy1_n c, fun g hg => by cases hg⟩
/-- the model's -/
theorem buyLoop9 {k l : Nat} {μ : Mem} {σ : Nat → Int32} (h : μ 143 = σ) (hI : Inv σ) (hk : k < nS σ) (hl : lft σ k = some l) : ∀ d i n, i + d = 6 → d < n → PM μ (X9_buys_L21 n 142 (nI k) (nI i) μ) 0 (match gtb σ k l d i with
    | none => σ
    | some g => bout σ k l g) := by
  have h6 := hI.n6
  have hlk := lft_ok hk l hl
  have hleft : f_X9_left 142 (nI k) μ = some (nI l, μ) := by
    have := left9 (μ := μ) (by rw [h]; exact hI) (o := some k) (fun j hj => by cases hj; rw [h]; exact hk)
    rw [show ((some k).bind (lft (μ 143))) = some l from by rw [h]; exact hl] at this
    exact this
  intro d
  induction d with
  | zero =>
    intro i n hi hn
    obtain ⟨n, rfl⟩ : ∃ m, n = m + 1 := ⟨n - 1, by omega⟩
    refine ⟨μ, ?_, h, FrG.rf μ⟩
    show X9_buys_L21B _ 142 (nI k) (nI i) μ = _
    unfold X9_buys_L21B
    rw [if_pos ((six_le (by omega)).mpr (by omega))]
  | succ d ih =>
    intro i n hi hn
    obtain ⟨n, rfl⟩ : ∃ m, n = m + 1 := ⟨n - 1, by omega⟩
    have ihn := ih (i + 1) n (by omega) (by omega)
    obtain ⟨μ', e1, e2, e3⟩ := buysOut9 h hI hk hl (g := i) (by omega)
    have hs : rg (stk σ k i) 0 99 := (hI.shop k hk).2.2.2.2 i (by omega)
    have hunf : X9_buys_L21 (n + 1) 142 (nI k) (nI i) μ = (if stk σ k i ≤ 0 then X9_buys_L21 n 142 (nI k) (nI (i + 1)) μ else if b2 ((1 : Int32) ≤ stk σ l i ∧ stk σ l i ≤ σ (17 + 21 * k)) = 0 then X9_buys_L21 n 142 (nI k) (nI (i + 1)) μ else some (0, μ')) := by
      show X9_buys_L21B (X9_buys_L21 n) 142 (nI k) (nI i) μ = _
      unfold X9_buys_L21B X9_buys_J74
      rw [if_neg (fun q => absurd ((six_le (by omega)).mp q) (by omega)), hleft, cal_some, its9_s (by omega) (by omega), cal_some, its9_s (by omega) (by omega), cal_some, its9_1 (by omega), cal_some, in_eq, cal_some, e1, cal_some, bnd_eq, nI_s, h]
    rw [hunf]
    unfold gtb
    by_cases c1 : stk σ k i = 0
    · rw [if_pos ((rg0 hs).mpr c1), if_neg (fun q => q.1 c1)]
      exact ihn
    · rw [if_neg (fun q => c1 ((rg0 hs).mp q))]
      by_cases c2 : (1 : Int32) ≤ stk σ l i ∧ stk σ l i ≤ σ (17 + 21 * k)
      · rw [b2_t c2, if_neg (by decide), if_pos ⟨c1, c2⟩]
        exact ⟨μ', rfl, e2, e3⟩
      · rw [b2_f c2, if_pos rfl, if_neg (fun q => c2 q.2)]
        exact ihn
theorem buys9 {k : Nat} {μ : Mem} {σ : Nat → Int32} (h : μ 143 = σ) (hI : Inv σ) (hk : k < nS σ) : PM μ (f_X9_buys 142 (nI k) μ) 0 (buy1 σ k) := by
  have h6 := hI.n6
  have hleft : f_X9_left 142 (nI k) μ = some (eO (lft σ k), μ) := by
    have := left9 (μ := μ) (by rw [h]; exact hI) (o := some k) (fun j hj => by cases hj; rw [h]; exact hk)
    rw [show ((some k).bind (lft (μ 143))) = lft σ k from by rw [h]; rfl] at this
    exact this
  have hoth : f_X9_hasOther 142 (nI k) μ = (if eO (lft σ k) = -1 then some (0, μ) else if eO (lft σ k) = nI k then some (0, μ) else some (1, μ)) := by
    unfold f_X9_hasOther X9_hasOther_J22 X9_hasOther_J23
    rw [hleft, cal_some, hleft, cal_some, show isb (0 : Int32) = true from rfl, show isb (1 : Int32) = true from rfl, gd_t, gd_t]
  have hunf : f_X9_buys 142 (nI k) μ = (if σ (16 + 21 * k) = 5 then cal (f_X9_hasOther 142 (nI k) μ) (fun r3 m4 => if r3 = 0 then some (0, m4) else X9_buys_L21 FU 142 (nI k) 0 m4) else some (0, μ)) := by
    unfold f_X9_buys X9_buys_J18
    rw [its9_0 (by omega), cal_some, h]
  rw [hunf]
  by_cases c : σ (16 + 21 * k) = 5
  · rw [if_pos c, hoth]
    cases hl : lft σ k with
    | none =>
      rw [show eO none = (-1 : Int32) from rfl, if_pos rfl, cal_some, if_pos rfl]
      exact ⟨μ, rfl, by rw [buy1_0 c hl]; exact h, FrG.rf μ⟩
    | some l =>
      have hlk := lft_ok hk l hl
      rw [show eO (some l) = nI l from rfl, if_neg (nI_nm1 (by omega))]
      by_cases e : l = k
      · subst e
        rw [if_pos rfl, cal_some, if_pos rfl]
        exact ⟨μ, rfl, by rw [buy1_1 c hl]; exact h, FrG.rf μ⟩
      · rw [if_neg (fun q => e (nI_inj q (by omega) (by omega))), cal_some, if_neg (by decide)]
        have hg := buyLoop9 h hI hk hl 6 0 FU (by omega) (by decide)
        cases hgt : gtb σ k l 6 0 with
        | none => rw [hgt] at hg; rw [buy1_2 c hl e hgt]; exact hg
        | some g => rw [hgt] at hg; rw [buy1_3 c hl e hgt]; exact hg
  · rw [if_neg c]
    exact ⟨μ, rfl, by rw [buy1_n c]; exact h, FrG.rf μ⟩
