/-! PURE 33: two that are joined -/
section
def jn1 (σ : Nat → Int32) (k g : Nat) : Nat → Int32 := upd σ (19 + 21 * k + g) (imin 9 (σ (19 + 21 * k + g) + σ (19 + 21 * (k + 1) + g)))
def jn2 (σ : Nat → Int32) (k g : Nat) : Nat → Int32 := upd (jn1 σ k g) (25 + 21 * k + g) (imin 99 (jn1 σ k g (25 + 21 * k + g) + jn1 σ k g (25 + 21 * (k + 1) + g)))
def jnGo (k : Nat) : Nat → Nat → (Nat → Int32) → (Nat → Int32)
  | 0, _, σ => σ
  | d + 1, i, σ => jnGo k d (i + 1) (jn2 σ k i)
theorem imin_hld9 {x y : Int32} (hx : rg x 0 9) (hy : rg y 0 9) : hld (x + y) 0 9 = imin 9 (x + y) ∧ rg (imin 9 (x + y)) 0 9 := by
  obtain ⟨a, ha, rfl⟩ := rg_nI (n := 9) hx (by omega)
  obtain ⟨b, hb, rfl⟩ := rg_nI (n := 9) hy (by omega)
  rw [nI_add]
  have d : ∀ n, n ≤ 18 → hld (nI n) 0 9 = imin 9 (nI n) ∧ (0 ≤ (imin 9 (nI n)).toInt ∧ (imin 9 (nI n)).toInt ≤ 9) := by decide +kernel
  exact d (a + b) (by omega)
section JN
variable {σ : Nat → Int32} {k g : Nat}
theorem jn1_ok (hI : Inv σ) (hk : k + 1 < nS σ) (hg : g < 6) : Inv (jn1 σ k g) ∧ nS (jn1 σ k g) = nS σ ∧ ∀ i, i < 16 ∨ 142 ≤ i → jn1 σ k g i = σ i := by
  have h6 := hI.n6
  refine ⟨hI.uKeeps (by omega) hg (imin_hld9 ((hI.shop k (by omega)).2.2.2.1 g hg) ((hI.shop (k + 1) hk).2.2.2.1 g hg)).2, ?_, fun i hi => upd_ne (by omega)⟩
  unfold nS jn1
  rw [upd_ne (by omega)]
theorem jn2_ok (hI : Inv σ) (hk : k + 1 < nS σ) (hg : g < 6) : Inv (jn2 σ k g) ∧ nS (jn2 σ k g) = nS σ ∧ ∀ i, i < 16 ∨ 142 ≤ i → jn2 σ k g i = σ i := by
  have h6 := hI.n6
  obtain ⟨a1, a2, a3⟩ := jn1_ok hI hk hg
  refine ⟨a1.uStock (by omega) hg (imin_hld ((a1.shop k (by omega)).2.2.2.2 g hg) ((a1.shop (k + 1) (by omega)).2.2.2.2 g hg)).2, ?_, fun i hi => ?_⟩
  · rw [← a2]
    unfold nS jn2
    rw [upd_ne (by omega)]
  · unfold jn2
    rw [upd_ne (by omega)]
    exact a3 i hi
theorem jnGo_ok : ∀ d i (σ : Nat → Int32), i + d = 6 → Inv σ → k + 1 < nS σ → Inv (jnGo k d i σ) ∧ nS (jnGo k d i σ) = nS σ ∧ ∀ j, j < 16 ∨ 142 ≤ j → jnGo k d i σ j = σ j := by
  intro d
  induction d with
  | zero => intro i σ _ hI _; exact ⟨hI, rfl, fun _ _ => rfl⟩
  | succ d ih =>
    intro i σ hi hI hk
    obtain ⟨a1, a2, a3⟩ := jn2_ok hI hk (show i < 6 by omega)
    obtain ⟨b1, b2, b3⟩ := ih (i + 1) _ (by omega) a1 (by omega)
    exact ⟨b1, b2.trans a2, fun j hj => (b3 j hj).trans (a3 j hj)⟩
end JN
theorem join10 {w k : Nat} : ∀ d i (μ : Mem) (σ : Nat → Int32) n, i + d = 6 → d < n → RepW μ w σ → Inv σ → k + 1 < nS σ → PW w μ (X5_join_L10 n (w + 7 + 3 * k) (w + 7 + 3 * (k + 1)) (nI i) μ) 0 (jnGo k d i σ) := by
  intro d
  induction d with
  | zero =>
    intro i μ σ n hi hn h hI hk
    obtain ⟨n, rfl⟩ : ∃ m, n = m + 1 := ⟨n - 1, by omega⟩
    refine ⟨μ, ?_, h, FrW.rf _ _⟩
    show X5_join_L10B _ (w + 7 + 3 * k) (w + 7 + 3 * (k + 1)) (nI i) μ = _
    unfold X5_join_L10B
    rw [if_pos ((six_le (by omega)).mpr (by omega))]
  | succ d ih =>
    intro i μ σ n hi hn h hI hk
    obtain ⟨n, rfl⟩ : ∃ m, n = m + 1 := ⟨n - 1, by omega⟩
    have h6 := hI.n6
    have hi6 : i < 6 := by omega
    obtain ⟨a1, a2, a3⟩ := jn1_ok hI hk hi6
    obtain ⟨b1, b2, b3⟩ := jn2_ok hI hk hi6
    have w1 : RepW (mset μ (w + 8 + 3 * k) i (imin 9 (σ (19 + 21 * k + i) + σ (19 + 21 * (k + 1) + i)))) w (jn1 σ k i) := wr_keeps h hI (by omega) hi6 _
    have f1 : FrW w μ (mset μ (w + 8 + 3 * k) i (imin 9 (σ (19 + 21 * k + i) + σ (19 + 21 * (k + 1) + i)))) := by
      rw [Nat.add_assoc]
      exact FrW.ms (by omega)
    have x1 := rd_keeps h hI (k := k) (g := i) (by omega) hi6
    have x2 := rd_keeps h hI (k := k + 1) (g := i) hk hi6
    have y1 := rd_stock w1 a1 (k := k) (g := i) (by omega) hi6
    have y2 := rd_stock w1 a1 (k := k + 1) (g := i) (by omega) hi6
    generalize hm : mset μ (w + 8 + 3 * k) i (imin 9 (σ (19 + 21 * k + i) + σ (19 + 21 * (k + 1) + i))) = m1 at w1 f1 y1 y2
    have w2 : RepW (mset m1 (w + 9 + 3 * k) i (imin 99 (jn1 σ k i (25 + 21 * k + i) + jn1 σ k i (25 + 21 * (k + 1) + i)))) w (jn2 σ k i) := wr_stock w1 a1 (by omega) hi6 _
    have f2 : FrW w m1 (mset m1 (w + 9 + 3 * k) i (imin 99 (jn1 σ k i (25 + 21 * k + i) + jn1 σ k i (25 + 21 * (k + 1) + i)))) := FrW.m9 (by omega)
    obtain ⟨m3, c1, c2, c3⟩ := ih (i + 1) _ _ n (by omega) (by omega) w2 b1 (by omega)
    refine ⟨m3, ?_, c2, (f1.tr f2).tr c3⟩
    show X5_join_L10B _ (w + 7 + 3 * k) (w + 7 + 3 * (k + 1)) (nI i) μ = _
    unfold X5_join_L10B
    rw [if_neg (fun q => absurd ((six_le (by omega)).mp q) (by omega)), inb_nI hi6 (by omega), gd_t, gd_t, gd_t, bnd_eq, gd_t, gd_t, gd_t, bnd_eq, bnd_eq, nI_s, clamp_nI (by omega), locB, locB, locC, locC, x1, x2, hm, y1, y2]
    exact c1
/-- the row without the one behind, from there on -/
def shGoJ : Nat → Nat → (Nat → Int32) → (Nat → Int32)
  | 0, _, σ => upd σ 0 (σ 0 - 1)
  | d + 1, i, σ => shGoJ d (i + 1) (cpS σ i σ (i + 1))
theorem less_ok {σ : Nat → Int32} (hI : Inv σ) (h0 : 0 < nS σ) : nS (upd σ 0 (σ 0 - 1)) = nS σ - 1 ∧ Inv (upd σ 0 (σ 0 - 1)) ∧ ∀ {μ : Mem} {w : Nat}, RepW μ w σ → RepW (mset μ w 4 (σ 0 - 1)) w (upd σ 0 (σ 0 - 1)) := by
  have h6 := hI.n6
  have hs0 : σ 0 - 1 = nI (nS σ - 1) := by rw [hI.s0, nI_pred1 h0]
  have hn : nS (upd σ 0 (σ 0 - 1)) = nS σ - 1 := by
    unfold nS at h6 ⊢
    rw [upd_same, hs0, clamp_nI (by unfold nS; omega)]
    rfl
  refine ⟨hn, ?_, fun {μ w} h => ⟨?_, ?_, h.2.2.wr hI.t60 (i := 0) (p := (0, 4)) rfl _⟩⟩
  · have t60 := hI.T60
    have c10 := hI.c10
    have hn' := hn
    obtain ⟨g0, g1, g4, g5, g6, g7, gc, gS, gC, gT, gB⟩ := hI
    refine ⟨by rw [upd_same, hs0]; exact nI_rg (n := 6) (by omega) (by omega), by rw [upd_ne (by omega)]; exact g1, by rw [upd_ne (by omega)]; exact g4, by rw [upd_ne (by omega)]; exact g5, by rw [upd_ne (by omega)]; exact g6, by rw [upd_ne (by omega)]; exact g7, fun g hg => by rw [upd_ne (by omega)]; exact gc g hg, fun k hk => ?_, fun c hc => ?_, fun u hu => ?_, fun j hj => ?_⟩
    · rw [hn'] at hk
      refine ShopOk.mk (fun j hj => ?_)
      rw [upd_ne (by omega)]
      exact (gS k (by omega)).at hj
    · unfold nC at hc
      rw [upd_ne (by omega)] at hc
      have hc2 : c < nC σ := hc
      exact (gC c hc2).eq (by omega) (fun j h1 h2 => upd_ne (by omega))
    · exact (gT u hu).eq (txt_eq hu (fun j h1 h2 => upd_ne (by omega)))
    · unfold nT at hj
      rw [upd_ne (by omega)] at hj
      have hj2 : j < nT σ := hj
      rw [upd_ne (by omega)]
      exact gB j hj2
  · refine (h.1.wr (i := 0) (p := (0, 4)) rfl _).mono (fun j hj => Or.inl ?_)
    unfold lve at hj ⊢
    rw [hn] at hj
    unfold nC nT nW at hj ⊢
    rw [upd_ne (by omega), upd_ne (by omega), upd_ne (by omega)] at hj
    exact ⟨fun a b => by have := hj.1 a b; omega, hj.2.1, hj.2.2.1, hj.2.2.2⟩
  · intro k hk g hg
    rw [hn] at hk
    rw [mset_row (by omega), upd_ne (by omega)]
    exact h.2.1 k (by omega) g hg
theorem shGoJ_ok : ∀ d i (σ : Nat → Int32), i + d + 1 = nS σ → Inv σ → Inv (shGoJ d i σ) ∧ nS (shGoJ d i σ) = nS σ - 1 ∧ ∀ j, 142 ≤ j → shGoJ d i σ j = σ j := by
  intro d
  induction d with
  | zero =>
    intro i σ hi hI
    obtain ⟨a1, a2, -⟩ := less_ok hI (by omega)
    exact ⟨a2, a1, fun j hj => upd_ne (by omega)⟩
  | succ d ih =>
    intro i σ hi hI
    have h6 := hI.n6
    obtain ⟨a1, a2, a3⟩ := cpS_inv hI hI (t := i) (k := i + 1) (by omega) (by omega)
    obtain ⟨b1, b2, b3⟩ := ih (i + 1) _ (by omega) a1
    exact ⟨b1, by rw [← a2]; exact b2, fun j hj => (b3 j hj).trans (a3 j (by omega))⟩
theorem join21 {w : Nat} : ∀ d i (μ : Mem) (σ : Nat → Int32) n, i + d + 1 = nS σ → d < n → RepW μ w σ → Inv σ → PW w μ (X7_joinNext_L21 n w (nI i) μ) 0 (shGoJ d i σ) := by
  intro d
  induction d with
  | zero =>
    intro i μ σ n hi hn h hI
    obtain ⟨n, rfl⟩ : ∃ m, n = m + 1 := ⟨n - 1, by omega⟩
    have h6 := hI.n6
    obtain ⟨-, -, a3⟩ := less_ok hI (by omega)
    refine ⟨_, ?_, a3 h, FrW.m0⟩
    show X7_joinNext_L21B _ w (nI i) μ = _
    unfold X7_joinNext_L21B
    rw [rd_n h, if_pos (by rw [hI.s0, nI_pred1 (by omega)]; exact (nI_leq (by omega) (by omega)).mpr (by omega)), bnd_eq]
  | succ d ih =>
    intro i μ σ n hi hn h hI
    obtain ⟨n, rfl⟩ : ∃ m, n = m + 1 := ⟨n - 1, by omega⟩
    have h6 := hI.n6
    obtain ⟨a1, a2, -⟩ := cpS_inv hI hI (t := i) (k := i + 1) (by omega) (by omega)
    obtain ⟨m1, b1, b2, b3⟩ := copyS7 (w := w) (v := w) (t := i) (k := i + 1) h hI h hI (by omega) (by omega) (by omega)
    obtain ⟨m2, c1, c2, c3⟩ := ih (i + 1) m1 _ n (by omega) (by omega) b2 a1
    refine ⟨m2, ?_, c2, b3.tr c3⟩
    show X7_joinNext_L21B _ w (nI i) μ = _
    unfold X7_joinNext_L21B
    rw [rd_n h, if_neg (by rw [hI.s0, nI_pred1 (by omega)]; exact fun q => absurd ((nI_leq (by omega) (by omega)).mp q) (by omega)), inb_nI (k := i) (by omega) (by omega), gd_t, nI_s, inb_nI (k := i + 1) (by omega) (by omega), gd_t, clamp_nI (k := i) (by omega), clamp_nI (k := i + 1) (by omega), locA, locA, b1, cal_some, bnd_eq]
    exact c1
/-- the two are one -/
def joi (σ : Nat → Int32) (k : Nat) : Nat → Int32 := shGoJ (nS σ - (k + 2)) (k + 1) (jnGo k 6 0 (gts σ k (σ (18 + 21 * (k + 1)))))
theorem joi_ok {σ : Nat → Int32} (hI : Inv σ) {k : Nat} (hk : k + 1 < nS σ) : Inv (gts σ k (σ (18 + 21 * (k + 1)))) ∧ nS (gts σ k (σ (18 + 21 * (k + 1)))) = nS σ ∧ Inv (jnGo k 6 0 (gts σ k (σ (18 + 21 * (k + 1))))) ∧ nS (jnGo k 6 0 (gts σ k (σ (18 + 21 * (k + 1))))) = nS σ ∧ Inv (joi σ k) ∧ nS (joi σ k) = nS σ - 1 ∧ ∀ j, 516 ≤ j → joi σ k j = σ j := by
  have h6 := hI.n6
  have a1 := gts_inv hI (k := k) (by omega) (σ (18 + 21 * (k + 1)))
  have a2 := gts_nS σ k (σ (18 + 21 * (k + 1)))
  obtain ⟨b1, b2, b3⟩ := jnGo_ok (k := k) 6 0 _ (by omega) a1 (by omega)
  obtain ⟨c1, c2, c3⟩ := shGoJ_ok (nS σ - (k + 2)) (k + 1) _ (by omega) b1
  refine ⟨a1, a2, b1, b2.trans a2, c1, by rw [← a2, ← b2]; exact c2, fun j hj => ?_⟩
  exact (c3 j (by omega)).trans ((b3 j (by omega)).trans (gts_ne (by omega)))
theorem joinNext7 {w k : Nat} {μ : Mem} {σ : Nat → Int32} (h : RepW μ w σ) (hI : Inv σ) (hk : k + 1 < nS σ) : PW w μ (f_X7_joinNext w (nI k) μ) 0 (joi σ k) := by
  have h6 := hI.n6
  obtain ⟨a1, a2, b1, b2, -⟩ := joi_ok hI hk
  obtain ⟨m1, x1, x2, x3⟩ := earn5 h hI (k := k) (by omega) (σ (18 + 21 * (k + 1)))
  obtain ⟨m2, y1, y2, y3⟩ := join10 (k := k) 6 0 m1 _ FU (by omega) (by decide) x2 a1 (by omega)
  obtain ⟨m3, z1, z2, z3⟩ := join21 (nS σ - (k + 2)) (k + 1) m2 _ FU (by omega) (by rw [FU_eq]; omega) y2 b1
  refine ⟨m3, ?_, z2, (x3.tr y3).tr z3⟩
  unfold f_X7_joinNext f_X5_join
  rw [inb_nI (k := k) (by omega) (by omega), gd_t, nI_s, inb_nI (k := k + 1) (by omega) (by omega), gd_t, clamp_nI (k := k) (by omega), clamp_nI (k := k + 1) (by omega), locA, locA, rd_purse h hI hk, x1, cal_some]
  show cal (X5_join_L10 FU (w + 7 + 3 * k) (w + 7 + 3 * (k + 1)) (nI 0) m1) _ = _
  rw [y1, cal_some, bnd_eq]
  exact z1
theorem joins114 (K : Nat → Int32 → Mem → Res) {i : Nat} (hi : i + 1 < 6) : ∀ d j (μ : Mem) n, j + d = 21 → d < n → X9_joins_L114 K n 142 (nI i) (nI j) μ = K 142 (nI (i + 1)) (sR μ 143 (fun q => if 16 + 21 * i + j ≤ q ∧ q < 37 + 21 * i then μ 143 (q - 21 * i + 21 * (i + 1)) else μ 143 q)) := by
  intro d
  induction d with
  | zero =>
    intro j μ n hj hn
    obtain ⟨n, rfl⟩ : ∃ m, n = m + 1 := ⟨n - 1, by omega⟩
    show X9_joins_L114B _ _ 142 (nI i) (nI j) μ = _
    unfold X9_joins_L114B
    rw [if_pos ((lit_le (x := 21) 21 rfl (by omega) (by omega : j < 2 ^ 31)).mpr (by omega)), bnd_eq, nI_s]
    have : (fun q => if 16 + 21 * i + j ≤ q ∧ q < 37 + 21 * i then μ 143 (q - 21 * i + 21 * (i + 1)) else μ 143 q) = μ 143 := funext (fun q => if_neg (by omega))
    rw [this, sR_id]
  | succ d ih =>
    intro j μ n hj hn
    obtain ⟨n, rfl⟩ : ∃ m, n = m + 1 := ⟨n - 1, by omega⟩
    show X9_joins_L114B _ _ 142 (nI i) (nI j) μ = _
    unfold X9_joins_L114B
    rw [if_neg (fun q => absurd ((lit_le (x := 21) 21 rfl (by omega) (by omega : j < 2 ^ 31)).mp q) (by omega)), nI_s, its9 (k := i + 1) (j := j) (by omega), cal_some, lays9 (k := i) (j := j) (by omega), cal_some, bnd_eq, nI_s, ih (j + 1) _ n (by omega) (by omega), sR_sR, sR_same]
    have hf : (fun q => if 16 + 21 * i + (j + 1) ≤ q ∧ q < 37 + 21 * i then upd (μ 143) (16 + 21 * i + j) (μ 143 (16 + 21 * (i + 1) + j)) (q - 21 * i + 21 * (i + 1)) else upd (μ 143) (16 + 21 * i + j) (μ 143 (16 + 21 * (i + 1) + j)) q) = (fun q => if 16 + 21 * i + j ≤ q ∧ q < 37 + 21 * i then μ 143 (q - 21 * i + 21 * (i + 1)) else μ 143 q) := by
      funext q
      by_cases e : q = 16 + 21 * i + j
      · rw [e, if_neg (by omega), if_pos (by omega), upd_same]
        congr 1
        omega
      · rw [upd_ne e]
        by_cases c : 16 + 21 * i + j ≤ q ∧ q < 37 + 21 * i
        · rw [if_pos c, if_pos (by omega), upd_ne (by omega)]
        · rw [if_neg c, if_neg (by omega)]
    rw [hf]
theorem joins100 : ∀ d i (μ : Mem) (σ : Nat → Int32) n, i + d + 1 = nS σ → d < n → μ 143 = σ → Inv σ → X9_joins_L100 n 142 (nI i) μ = some (0, sR μ 143 (shGoJ d i σ)) := by
  intro d
  induction d with
  | zero =>
    intro i μ σ n hi hn h hI
    obtain ⟨n, rfl⟩ : ∃ m, n = m + 1 := ⟨n - 1, by omega⟩
    have h6 := hI.n6
    show X9_joins_L100B _ 142 (nI i) μ = some (0, sR μ 143 (upd σ 0 (σ 0 - 1)))
    unfold X9_joins_L100B
    rw [show inb (0 : Int32) 516 = true from by decide, gd_t, gd_t, gd_t, s0_le h, nI_s, if_pos (by rw [hI.s0]; exact (nI_leq (by omega) (by omega)).mpr (by omega)), bnd_eq, z0, show (142 + 1 : Nat) = 143 from rfl, mset_sR, h]
  | succ d ih =>
    intro i μ σ n hi hn h hI
    obtain ⟨n, rfl⟩ : ∃ m, n = m + 1 := ⟨n - 1, by omega⟩
    have h6 := hI.n6
    obtain ⟨a1, a2, -⟩ := cpS_inv hI hI (t := i) (k := i + 1) (by omega) (by omega)
    have b1 := joins114 (X9_joins_L100 n) (i := i) (by omega) 21 0 μ FU (by omega) (by decide)
    have hcp : (fun q => if 16 + 21 * i + 0 ≤ q ∧ q < 37 + 21 * i then μ 143 (q - 21 * i + 21 * (i + 1)) else μ 143 q) = cpS σ i σ (i + 1) := by
      rw [h]
      rfl
    rw [hcp] at b1
    have b2 := ih (i + 1) (sR μ 143 (cpS σ i σ (i + 1))) _ n (by omega) (by omega) (sR_same _ _ _) a1
    rw [sR_sR] at b2
    show X9_joins_L100B _ 142 (nI i) μ = _
    unfold X9_joins_L100B
    rw [show inb (0 : Int32) 516 = true from by decide, gd_t, gd_t, gd_t, s0_le h, nI_s, if_neg (by rw [hI.s0]; exact fun q => absurd ((nI_leq (by omega) (by omega)).mp q) (by omega))]
    exact b1.trans b2
theorem joins15 {k : Nat} : ∀ d i (μ : Mem) (σ : Nat → Int32) n, i + d = 6 → d < n → μ 143 = σ → Inv σ → k + 1 < nS σ → X9_joins_L15 n 142 (nI k) (nI i) μ = X9_joins_L100 FU 142 (nI (k + 1)) (sR μ 143 (jnGo k d i σ)) := by
  intro d
  induction d with
  | zero =>
    intro i μ σ n hi hn h hI hk
    obtain ⟨n, rfl⟩ : ∃ m, n = m + 1 := ⟨n - 1, by omega⟩
    show X9_joins_L15B _ 142 (nI k) (nI i) μ = X9_joins_L100 FU 142 (nI (k + 1)) (sR μ 143 σ)
    unfold X9_joins_L15B
    rw [if_pos ((six_le (by omega)).mpr (by omega)), bnd_eq, nI_s, ← h, sR_id]
  | succ d ih =>
    intro i μ σ n hi hn h hI hk
    obtain ⟨n, rfl⟩ : ∃ m, n = m + 1 := ⟨n - 1, by omega⟩
    have h6 := hI.n6
    have hi6 : i < 6 := by omega
    obtain ⟨a1, a2, a3⟩ := jn1_ok hI hk hi6
    obtain ⟨b1, b2, b3⟩ := jn2_ok hI hk hi6
    have e9 := (imin_hld9 ((hI.shop k (by omega)).2.2.2.1 i hi6) ((hI.shop (k + 1) hk).2.2.2.1 i hi6)).1
    have e99 := (imin_hld ((a1.shop k (by omega)).2.2.2.2 i hi6) ((a1.shop (k + 1) (by omega)).2.2.2.2 i hi6)).1
    have b4 := ih (i + 1) (sR μ 143 (jn2 σ k i)) _ n (by omega) (by omega) (sR_same _ _ _) b1 (by omega)
    rw [sR_sR] at b4
    show X9_joins_L15B _ 142 (nI k) (nI i) μ = _
    unfold X9_joins_L15B
    rw [if_neg (fun q => absurd ((six_le (by omega)).mp q) (by omega)), its9_k (k := k) (by omega) hi6, cal_some, nI_s, its9_k (k := k + 1) (by omega) hi6, cal_some, held_eq, cal_some, h, e9, lays9_k (k := k) (by omega) hi6, cal_some, h, its9_s (k := k) (by omega) hi6, cal_some, its9_s (k := k + 1) (by omega) hi6, cal_some, held_eq, cal_some, sR_same]
    show cal (f_X9_lays1 142 (nI k) (9 + nI i) (hld (jn1 σ k i (25 + 21 * k + i) + jn1 σ k i (25 + 21 * (k + 1) + i)) 0 99) (sR μ 143 (jn1 σ k i))) _ = _
    rw [e99, lays9_s (k := k) (by omega) hi6, cal_some, bnd_eq, nI_s, sR_same, sR_sR]
    exact b4
theorem joins9 {k : Nat} {μ : Mem} {σ : Nat → Int32} (h : μ 143 = σ) (hI : Inv σ) (hk : k + 1 < nS σ) : f_X9_joins 142 (nI k) μ = some (0, sR μ 143 (joi σ k)) := by
  have h6 := hI.n6
  obtain ⟨a1, a2, b1, b2, -⟩ := joi_ok hI hk
  have g1 := gets9 (μ := μ) (by rw [h]; exact hI) (k := k) (by omega) (σ (18 + 21 * (k + 1)))
  rw [h] at g1
  have g2 := joins15 (k := k) 6 0 (sR μ 143 (gts σ k (σ (18 + 21 * (k + 1))))) _ FU (by omega) (by decide) (sR_same _ _ _) a1 (by omega)
  rw [sR_sR] at g2
  have g3 := joins100 (nS σ - (k + 2)) (k + 1) (sR μ 143 (jnGo k 6 0 (gts σ k (σ (18 + 21 * (k + 1)))))) _ FU (by omega) (by rw [FU_eq]; omega) (sR_same _ _ _) b1
  rw [sR_sR] at g3
  unfold f_X9_joins
  rw [nI_s, its9_2 (k := k + 1) (by omega), cal_some, h, g1, cal_some]
  exact g2.trans g3
theorem two_up {σ : Nat → Int32} (hI : Inv σ) {x : Int32} (h : (0 : Int32) ≤ x ∧ x ≤ σ 0 - 2) : ∃ k, k + 1 < nS σ ∧ x = nI k := by
  have h6 := hI.n6
  obtain ⟨h1, h2⟩ := h
  rw [hI.s0] at h2
  have a1 := Int32.le_iff_toInt_le.mp h1
  have a2 := Int32.le_iff_toInt_le.mp h2
  have z : (0 : Int32).toInt = 0 := by decide
  have z2 : (2 : Int32).toInt = 2 := by decide
  rw [z] at a1
  rw [sub_toInt (by rw [nI_toInt (by omega)]; omega) (by rw [z2]; omega), nI_toInt (by omega), z2] at a2
  obtain ⟨k, hk, e⟩ := rg_nI (x := x) (n := 6) ⟨a1, by omega⟩ (by omega)
  rw [e, nI_toInt (by omega)] at a2
  exact ⟨k, by omega, e⟩
theorem up_in {k n : Nat} (h : k < n) (hn : n ≤ 2000) : (0 : Int32) ≤ nI k ∧ nI k ≤ nI n - 1 := ⟨nI_pos' (by omega), by rw [nI_pred1 (by omega)]; exact (nI_leq (by omega) (by omega)).mpr (by omega)⟩
theorem sim_joined {μ : Mem} (h : Rel μ) (x y : Int32) : Sm (f_X8_joined 0 x y μ) (f_X9_joined_ 142 x y) := by
  obtain ⟨h1, h2, h3⟩ := id h
  have h6 := h2.n6
  by_cases c1 : (0 : Int32) ≤ x ∧ x ≤ μ 143 0 - 2
  · obtain ⟨k, hk, e1⟩ := two_up h2 c1
    have d1 : (0 : Int32) ≤ x ∧ x ≤ μ 143 0 - 1 := by rw [e1, h2.s0]; exact up_in (by omega) (by omega)
    have d2 : (0 : Int32) ≤ x + 1 ∧ x + 1 ≤ μ 143 0 - 1 := by rw [e1, h2.s0, nI_s]; exact up_in (by omega) (by omega)
    by_cases c2 : (1 : Int32) ≤ y ∧ y ≤ 20
    · obtain ⟨N, -, hN, e2⟩ := lit_rg 1 20 rfl rfl (by omega) (by omega) c2
      obtain ⟨-, -, -, -, j1, j2, j3⟩ := joi_ok h2 hk
      obtain ⟨m1, a1, r1, f1⟩ := trial7 h1 h2
      obtain ⟨m2, a2, r2, f2⟩ := pass7 (w := 83) (N := N) (by omega) 0 r1 h2
      have kp := dyGo_kp (L := 0) N _ h2
      have p1 := rd_purse r2 kp.1 (k := k) (by rw [kp.2.1]; omega)
      have p2 := rd_purse r2 kp.1 (k := k + 1) (by rw [kp.2.1]; omega)
      obtain ⟨m3, a3, r3, f3⟩ := trial7 (now_fr h1 h2 (f1.tr f2)) h2
      obtain ⟨m4, a4, r4, f4⟩ := joinNext7 r3 h2 hk
      obtain ⟨m5, a5, r5, f5⟩ := pass7 (w := 83) (N := N) (by omega) 0 r4 j1
      have kq := dyGo_kp (L := 0) N _ j1
      have p3 := rd_purse r5 kq.1 (k := k) (by rw [kq.2.1]; omega)
      have ff := (((f1.tr f2).tr f3).tr f4).tr f5
      have hX : f_X8_joined 0 x y μ = some (dyGo 0 N (joi (μ 143) k) (18 + 21 * k) - (dyGo 0 N (μ 143) (18 + 21 * k) + dyGo 0 N (μ 143) (18 + 21 * (k + 1))), m5) := by
        unfold f_X8_joined
        simp only [Nat.zero_add]
        rw [hasShop7 h1, cal_some, b2_t d1, if_neg (by decide), hasShop7 h1, cal_some, b2_t d2, if_neg (by decide), within_eq, cal_some, b2_t c2, if_neg (by decide), e1, e2, a1, cal_some, a2, cal_some, inb_nI (k := k) (by omega) (by omega), gd_t, nI_s, inb_nI (k := k + 1) (by omega) (by omega), gd_t, bnd_eq, a3, cal_some, a4, cal_some, a5, cal_some, gd_t, clamp_nI (k := k) (by omega), clamp_nI (k := k + 1) (by omega), locA, locA, p1, p2, p3]
      have hm : m5 143 = μ 143 := ff.c83 143 (by omega)
      obtain ⟨n1, b1, s1, q1, g1⟩ := carryS hm
      obtain ⟨n2, b2, s2, g2⟩ := go9 (N := N) (by omega) s1 h2
      have bk := carryB (q1.fr g2) (by rw [s2]; exact kp.hi)
      have bj := joins9 (μ := sR n2 143 (μ 143)) (sR_same _ _ _) h2 hk
      rw [sR_sR] at bj
      obtain ⟨n3, b3, s3, g3⟩ := go9 (N := N) (μ := sR n2 143 (joi (μ 143) k)) (by omega) (sR_same _ _ _) j1
      have bk2 := carryB (((q1.fr g2).s (joi (μ 143) k)).fr g3) (fun j hj => by rw [s3, kq.hi j hj]; exact j3 j hj)
      refine Sm.mk h hX (now_fr h1 h2 ff) ff.c83 h2 ⟨sR n3 143 (μ 143), ?_, sR_same _ _ _, ((((g1.tr g2.t).tr (FrT.s _ _)).tr g3.t).tr (FrT.s _ _)).m⟩
      unfold f_X9_joined_
      rw [show inb (0 : Int32) 516 = true from by decide, gd_t, s0_le hm, in_eq, cal_some, b2_t c1, if_neg (by decide), in_eq, cal_some, b2_t c2, if_neg (by decide), e1, e2, b1, cal_some, b2, cal_some, its9_2 (k := k) (by omega), cal_some, nI_s, its9_2 (k := k + 1) (by omega), cal_some, bnd_eq, bk, cal_some, bj, cal_some, b3, cal_some, its9_2 (k := k) (by omega), cal_some, bk2, cal_some, s2, s3]
    · refine Sm.er h (k := 1) (by omega) ?_ (fun m e _ => ?_)
      · unfold f_X8_joined X8_joined_J34
        simp only [Nat.zero_add]
        rw [hasShop7 h1, cal_some, b2_t d1, if_neg (by decide), hasShop7 h1, cal_some, b2_t d2, if_neg (by decide), within_eq, cal_some, b2_f c2, if_pos rfl]
        exact cal_e _
      · unfold f_X9_joined_ X9_joined__J26
        rw [show inb (0 : Int32) 516 = true from by decide, gd_t, s0_le e, in_eq, cal_some, b2_t c1, if_neg (by decide), in_eq, cal_some, b2_f c2, if_pos rfl]
        exact cal_e _
  · refine Sm.er h (k := 1) (by omega) ?_ (fun m e _ => ?_)
    · unfold f_X8_joined X8_joined_J34
      simp only [Nat.zero_add]
      rw [hasShop7 h1, cal_some]
      by_cases d1 : (0 : Int32) ≤ x ∧ x ≤ μ 143 0 - 1
      · obtain ⟨k, hk, e1⟩ := h2.sh d1
        have d2 : ¬ ((0 : Int32) ≤ x + 1 ∧ x + 1 ≤ μ 143 0 - 1) := by
          intro q
          rw [e1, nI_s] at q
          obtain ⟨k', hk', e'⟩ := h2.sh q
          have := nI_inj e' (by omega) (by omega)
          refine c1 ⟨d1.1, ?_⟩
          rw [e1, h2.s0]
          have : nI (nS (μ 143)) - 2 = nI (nS (μ 143) - 2) := nI_sub' (x := 2) (b := 2) rfl (by omega)
          rw [this]
          exact (nI_leq (by omega) (by omega)).mpr (by omega)
        rw [b2_t d1, if_neg (by decide), hasShop7 h1, cal_some, b2_f d2, if_pos rfl]
        exact cal_e _
      · rw [b2_f d1, if_pos rfl]
        exact cal_e _
    · unfold f_X9_joined_ X9_joined__J26
      rw [show inb (0 : Int32) 516 = true from by decide, gd_t, s0_le e, in_eq, cal_some, b2_f c1, if_pos rfl]
      exact cal_e _
end
