/-! PURE 4: what stays in its bounds; purses; sets of goods -/
def okS (j : Nat) (x : Int32) : Prop := if j = 0 then rg x 0 6 else if j = 1 then rg x 0 9 else if j = 2 then rg x (-999999) 999999 else if j < 9 then rg x 0 9 else rg x 0 99
theorem ShopOk.at {σ : Nat → Int32} {k j : Nat} (h : ShopOk σ k) (hj : j < 15) : okS j (σ (16 + 21 * k + j)) := by
  unfold okS
  obtain ⟨h1, h2, h3, h4, h5⟩ := h
  split
  · rename_i e; subst e; exact h1
  · split
    · rename_i e; subst e
      rw [show 16 + 21 * k + 1 = 17 + 21 * k by omega]; exact h2
    · split
      · rename_i e; subst e
        rw [show 16 + 21 * k + 2 = 18 + 21 * k by omega]; exact h3
      · split
        · have := h4 (j - 3) (by omega)
          rw [show 19 + 21 * k + (j - 3) = 16 + 21 * k + j by omega] at this
          exact this
        · have := h5 (j - 9) (by omega)
          rw [show 25 + 21 * k + (j - 9) = 16 + 21 * k + j by omega] at this
          exact this
theorem ShopOk.mk {σ : Nat → Int32} {k : Nat} (h : ∀ j, j < 15 → okS j (σ (16 + 21 * k + j))) : ShopOk σ k := by
  refine ⟨?_, ?_, ?_, fun g hg => ?_, fun g hg => ?_⟩
  · have := h 0 (by omega); unfold okS at this; rw [if_pos rfl] at this; exact this
  · have := h 1 (by omega); unfold okS at this; rw [if_neg (by omega), if_pos rfl, show 16 + 21 * k + 1 = 17 + 21 * k by omega] at this; exact this
  · have := h 2 (by omega); unfold okS at this; rw [if_neg (by omega), if_neg (by omega), if_pos rfl, show 16 + 21 * k + 2 = 18 + 21 * k by omega] at this; exact this
  · have := h (3 + g) (by omega); unfold okS at this; rw [if_neg (by omega), if_neg (by omega), if_neg (by omega), if_pos (by omega), show 16 + 21 * k + (3 + g) = 19 + 21 * k + g by omega] at this; exact this
  · have := h (9 + g) (by omega); unfold okS at this; rw [if_neg (by omega), if_neg (by omega), if_neg (by omega), if_neg (by omega), show 16 + 21 * k + (9 + g) = 25 + 21 * k + g by omega] at this; exact this
theorem CustOk.eq {σ σ' : Nat → Int32} {c : Nat} (hc : c < 10) (h : CustOk σ c) (he : ∀ i, 142 ≤ i → i < 182 → σ' i = σ i) : CustOk σ' c := by
  unfold CustOk
  rw [he _ (by omega) (by omega), he _ (by omega) (by omega), he _ (by omega) (by omega), he _ (by omega) (by omega)]
  exact h
theorem txt_eq {σ σ' : Nat → Int32} {u : Nat} (hu : u < 2) (he : ∀ i, 182 ≤ i → i < 432 → σ' i = σ i) : ∀ i, i < 125 → txt σ' u i = txt σ u i := fun i hi => he _ (by omega) (by omega)
theorem hgt_eq {t t' : Nat → Int32} (n : Nat) (h : ∀ i, i < 1 + 2 * n → t' i = t i) : ∀ i, i ≤ n → hgt t' i = hgt t i := by
  intro i
  induction i with
  | zero => intro _; rfl
  | succ i ih =>
    intro hi
    unfold hgt
    rw [ih (by omega), h (1 + 2 * i) (by omega)]
theorem TextOk.eq {u : Nat} {t t' : Nat → Int32} (h : TextOk u t) (he : ∀ i, i < 125 → t' i = t i) : TextOk u t' := by
  obtain ⟨h1, h2, h3⟩ := h
  have e0 := he 0 (by omega)
  have hc := (rg_clamp (n := 60) h1 (by omega)).1
  have hh : ∀ i, i ≤ (t 0).toNatClampNeg → hgt t' i = hgt t i := hgt_eq _ (fun i hi => he i (by omega))
  refine ⟨by rw [e0]; exact h1, fun i hi => ?_, fun hp => ?_⟩
  · rw [e0] at hi
    rw [he _ (by omega), he _ (by omega), hh _ (by omega), hh _ (by omega)]
    exact h2 i hi
  · rw [e0] at hp ⊢
    rw [hh _ (Nat.le_refl _)]
    exact h3 hp
/-- a change of shops alone -/
theorem Inv.shops {σ σ' : Nat → Int32} (hI : Inv σ) (he : ∀ i, i < 16 ∨ 142 ≤ i → σ' i = σ i) (hs : ∀ k, k < nS σ → ShopOk σ' k) : Inv σ' := by
  have c10 := hI.c10
  have t60 := hI.T60
  obtain ⟨h0, h1, h4, h5, h6, h7, hc, hS, hC, hT, hB⟩ := hI
  have e0 := he 0 (by omega); have e1 := he 1 (by omega); have e4 := he 4 (by omega); have e5 := he 5 (by omega); have e6 := he 6 (by omega); have e7 := he 7 (by omega)
  have n0 : nS σ' = nS σ := by unfold nS; rw [e0]
  have n1 : nC σ' = nC σ := by unfold nC; rw [e1]
  have n6 : nT σ' = nT σ := by unfold nT; rw [e6]
  refine ⟨by rw [e0]; exact h0, by rw [e1]; exact h1, by rw [e4]; exact h4, by rw [e5]; exact h5, by rw [e6]; exact h6, by rw [e7]; exact h7, fun g hg => by rw [he _ (by omega)]; exact hc g hg, fun k hk => hs k (by omega), fun c hc => ?_, fun u hu => ?_, fun i hi => ?_⟩
  · rw [n1] at hc
    exact (hC c hc).eq (by omega) (fun i h1 h2 => he i (by omega))
  · exact (hT u hu).eq (txt_eq hu (fun i h1 h2 => he i (by omega)))
  · rw [n6] at hi
    rw [he _ (by omega)]
    exact hB i hi
theorem Inv.uS {σ : Nat → Int32} (hI : Inv σ) {k j : Nat} (hk : k < 6) (hj : j < 21) {v : Int32} (hv : j < 15 → okS j v) : Inv (upd σ (16 + 21 * k + j) v) := by
  have h6 := hI.n6
  refine hI.shops (fun i hi => upd_ne (by omega)) (fun k' hk' => ShopOk.mk (fun j' hj' => ?_))
  by_cases e : 16 + 21 * k' + j' = 16 + 21 * k + j
  · have e1 : j' = j := by omega
    rw [e, upd_same, e1]
    exact hv (by omega)
  · rw [upd_ne e]
    exact (hI.shop k' hk').at hj'
theorem okS_stock {x : Int32} {g : Nat} (h : rg x 0 99) : okS (9 + g) x := by
  unfold okS; rw [if_neg (by omega), if_neg (by omega), if_neg (by omega), if_neg (by omega)]; exact h
theorem okS_keeps {x : Int32} {g : Nat} (hg : g < 6) (h : rg x 0 9) : okS (3 + g) x := by
  unfold okS; rw [if_neg (by omega), if_neg (by omega), if_neg (by omega), if_pos (by omega)]; exact h
theorem Inv.uPurse {σ : Nat → Int32} (hI : Inv σ) {k : Nat} (hk : k < 6) {v : Int32} (hv : rg v (-999999) 999999) : Inv (upd σ (18 + 21 * k) v) := by
  have := hI.uS (j := 2) (v := v) hk (by omega) (fun _ => by unfold okS; rw [if_neg (by omega), if_neg (by omega), if_pos rfl]; exact hv)
  rwa [show 16 + 21 * k + 2 = 18 + 21 * k by omega] at this
theorem Inv.uStock {σ : Nat → Int32} (hI : Inv σ) {k g : Nat} (hk : k < 6) (hg : g < 6) {v : Int32} (hv : rg v 0 99) : Inv (upd σ (25 + 21 * k + g) v) := by
  have := hI.uS (j := 9 + g) (v := v) hk (by omega) (fun _ => okS_stock hv)
  rwa [show 16 + 21 * k + (9 + g) = 25 + 21 * k + g by omega] at this
theorem Inv.uKeeps {σ : Nat → Int32} (hI : Inv σ) {k g : Nat} (hk : k < 6) (hg : g < 6) {v : Int32} (hv : rg v 0 9) : Inv (upd σ (19 + 21 * k + g) v) := by
  have := hI.uS (j := 3 + g) (v := v) hk (by omega) (fun _ => okS_keeps hg hv)
  rwa [show 16 + 21 * k + (3 + g) = 19 + 21 * k + g by omega] at this
theorem Inv.uEve {σ : Nat → Int32} (hI : Inv σ) {k g : Nat} (hk : k < 6) (hg : g < 6) (v : Int32) : Inv (upd σ (31 + 21 * k + g) v) := by
  have := hI.uS (j := 15 + g) (v := v) hk (by omega) (fun h => absurd h (by omega))
  rwa [show 16 + 21 * k + (15 + g) = 31 + 21 * k + g by omega] at this
/-- a purse -/
def gts (σ : Nat → Int32) (k : Nat) (c : Int32) : Nat → Int32 := upd σ (18 + 21 * k) (hld (σ (18 + 21 * k) + c) (-999999) 999999)
theorem hld_purse (x : Int32) : rg (hld x (-999999) 999999) (-999999) 999999 := by
  have := hld_rg (v := x) (lo := -999999) (hi := 999999) (by decide)
  exact this
theorem gts_inv {σ : Nat → Int32} (hI : Inv σ) {k : Nat} (hk : k < 6) (c : Int32) : Inv (gts σ k c) := hI.uPurse hk (hld_purse _)
theorem gts_nS (σ : Nat → Int32) (k : Nat) (c : Int32) : nS (gts σ k c) = nS σ := by unfold nS gts; rw [upd_ne (by omega)]
theorem gts_ne {σ : Nat → Int32} {k : Nat} {c : Int32} {i : Nat} (h : i ≠ 18 + 21 * k) : gts σ k c i = σ i := upd_ne h
theorem earn5 {μ : Mem} {w : Nat} {σ : Nat → Int32} (h : RepW μ w σ) (hI : Inv σ) {k : Nat} (hk : k < nS σ) (c : Int32) : ∃ μ', f_X5_earn (w + 7 + 3 * k) c μ = some (0, μ') ∧ RepW μ' w (gts σ k c) ∧ FrW w μ μ' := by
  have h6 := hI.n6
  refine ⟨mset μ (w + 7 + 3 * k) 2 (hld (σ (18 + 21 * k) + c) (-999999) 999999), ?_, wr_purse h hI (by omega) _, ?_⟩
  · unfold f_X5_earn
    rw [hold_eq, cal_some, bnd_eq, rd_purse h hI hk]
  · rw [Nat.add_assoc]
    exact FrW.ms (by omega)
theorem gets9 {μ : Mem} (hI : Inv (μ 143)) {k : Nat} (hk : k < 6) (c : Int32) : f_X9_gets 142 (nI k) c μ = some (0, sR μ 143 (gts (μ 143) k c)) := by
  unfold f_X9_gets
  rw [its9' (x := 2) (j := 2) rfl (by omega), cal_some, held_eq, cal_some, lays9' (x := 2) (j := 2) rfl (by omega), cal_some, show 16 + 21 * k + 2 = 18 + 21 * k by omega]
  rfl
/-- what one may sell, as a set -/
def mayGo (σ : Nat → Int32) (k : Nat) : Nat → Nat → Int32 → Int32
  | 0, _, acc => acc
  | d + 1, i, acc => mayGo σ k d (i + 1) (if may σ k i = true then acc ||| isl 1 (nI i) else acc)
def maySet (σ : Nat → Int32) (k : Nat) : Int32 := mayGo σ k 6 0 0
theorem six_le {i : Nat} (hi : i < 2 ^ 31) : ((6 : Int32) ≤ nI i) ↔ 6 ≤ i := by
  show nI 6 ≤ nI i ↔ _
  exact nI_leI (by omega) hi
theorem nI_s (i : Nat) : nI i + 1 = nI (i + 1) := nI_1 i
theorem mayGoods7 {μ : Mem} {w : Nat} {σ : Nat → Int32} (h : RepW μ w σ) (hI : Inv σ) {k : Nat} (hk : k < nS σ) : f_X7_mayGoods w (nI k) μ = some (maySet σ k, μ) := by
  have key : ∀ d i acc n, i + d = 6 → d < n → X7_mayGoods_L4 n w (nI k) acc (nI i) μ = some (mayGo σ k d i acc, μ) := by
    intro d
    induction d with
    | zero =>
      intro i acc n hi hn
      obtain ⟨n, rfl⟩ : ∃ m, n = m + 1 := ⟨n - 1, by omega⟩
      show X7_mayGoods_L4B _ w (nI k) acc (nI i) μ = _
      unfold X7_mayGoods_L4B
      rw [if_pos ((six_le (by omega)).mpr (by omega))]
      rfl
    | succ d ih =>
      intro i acc n hi hn
      obtain ⟨n, rfl⟩ : ∃ m, n = m + 1 := ⟨n - 1, by omega⟩
      show X7_mayGoods_L4B _ w (nI k) acc (nI i) μ = _
      unfold X7_mayGoods_L4B X7_mayGoods_J25
      rw [if_neg (fun q => absurd ((six_le (by omega)).mp q) (by omega)), maySell7 h hI hk (by omega), cal_some]
      simp only [bnd_eq, nI_s]
      by_cases c : may σ k i = true
      · rw [b2_t c, if_neg (by decide), ih (i + 1) _ n (by omega) (by omega)]
        unfold mayGo
        rw [if_pos c]
        cases d <;> rfl
      · rw [b2_f c, if_pos rfl, ih (i + 1) _ n (by omega) (by omega)]
        show _ = some (mayGo σ k d (i + 1) (if may σ k i = true then acc ||| isl 1 (nI i) else acc), μ)
        rw [if_neg c]
  exact key 6 0 0 FU (by omega) (by decide)
theorem maySell9 {μ : Mem} (hI : Inv (μ 143)) {k : Nat} (hk : k < nS (μ 143)) : f_X9_maySell 142 (nI k) μ = some (maySet (μ 143) k, μ) := by
  have key : ∀ d i acc n, i + d = 6 → d < n → X9_maySell_L4 n 142 (nI k) acc (nI i) μ = some (mayGo (μ 143) k d i acc, μ) := by
    intro d
    induction d with
    | zero =>
      intro i acc n hi hn
      obtain ⟨n, rfl⟩ : ∃ m, n = m + 1 := ⟨n - 1, by omega⟩
      show X9_maySell_L4B _ 142 (nI k) acc (nI i) μ = _
      unfold X9_maySell_L4B
      rw [if_pos ((six_le (by omega)).mpr (by omega))]
      rfl
    | succ d ih =>
      intro i acc n hi hn
      obtain ⟨n, rfl⟩ : ∃ m, n = m + 1 := ⟨n - 1, by omega⟩
      show X9_maySell_L4B _ 142 (nI k) acc (nI i) μ = _
      unfold X9_maySell_L4B X9_maySell_J27
      rw [if_neg (fun q => absurd ((six_le (by omega)).mp q) (by omega)), may9 hI hk (by omega), cal_some]
      simp only [bnd_eq, nI_s]
      show _ = some (mayGo (μ 143) k d (i + 1) (if may (μ 143) k i = true then acc ||| isl 1 (nI i) else acc), μ)
      by_cases c : may (μ 143) k i = true
      · rw [b2_t c, if_neg (by decide), ih (i + 1) _ n (by omega) (by omega), if_pos c]
      · rw [b2_f c, if_pos rfl, ih (i + 1) _ n (by omega) (by omega), if_neg c, Int32.or_zero]
  exact key 6 0 0 FU (by omega) (by decide)
