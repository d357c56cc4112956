/-! PURE 24: a shop opens, bytes are fed -/
def zr (σ : Nat → Int32) (k i : Nat) : Nat → Int32 := fun j => if 16 + 21 * k + i ≤ j ∧ j < 37 + 21 * k then 0 else σ j
def opn (σ : Nat → Int32) (x : Int32) : Nat → Int32 := upd (upd (upd (zr σ (nS σ) 0) (16 + 21 * nS σ) (x / 10)) (17 + 21 * nS σ) (irm x 10)) 0 (nI (nS σ + 1))
theorem opn_ne {σ : Nat → Int32} {x : Int32} {i : Nat} (h : i < 16 + 21 * nS σ ∨ 37 + 21 * nS σ ≤ i) (h0 : i ≠ 0) : opn σ x i = σ i := by
  unfold opn zr
  rw [upd_ne h0, upd_ne (by omega), upd_ne (by omega), if_neg (by omega)]
theorem opn_0 {σ : Nat → Int32} (hI : Inv σ) {x : Int32} : nS (opn σ x) = nS σ + 1 := by
  have h6 := hI.n6
  have : ∀ n, n < 2 ^ 31 → (upd (upd (upd (zr σ (nS σ) 0) (16 + 21 * nS σ) (x / 10)) (17 + 21 * nS σ) (irm x 10)) 0 (nI n) 0).toNatClampNeg = n := fun n hn => by rw [upd_same]; exact clamp_nI hn
  exact this (nS σ + 1) (by omega)
theorem opn_k {σ : Nat → Int32} {x : Int32} : opn σ x (16 + 21 * nS σ) = x / 10 := by
  unfold opn
  rw [upd_ne (by omega), upd_ne (by omega), upd_same]
theorem opn_m {σ : Nat → Int32} {x : Int32} : opn σ x (17 + 21 * nS σ) = irm x 10 := by
  unfold opn
  rw [upd_ne (by omega), upd_same]
theorem opn_z {σ : Nat → Int32} {x : Int32} {i : Nat} (h1 : 18 + 21 * nS σ ≤ i) (h2 : i < 37 + 21 * nS σ) : opn σ x i = 0 := by
  unfold opn zr
  rw [upd_ne (by omega), upd_ne (by omega), upd_ne (by omega), if_pos (by omega)]
theorem open_all : ∀ v, v ≤ 69 → (0 ≤ (nI v / 10).toInt ∧ (nI v / 10).toInt ≤ 6) ∧ (0 ≤ (irm (nI v) 10).toInt ∧ (irm (nI v) 10).toInt ≤ 9) := by decide +kernel
theorem opn_inv {σ : Nat → Int32} (hI : Inv σ) {x : Int32} (hn : nS σ < 6) (hx : (0 : Int32) ≤ x ∧ x ≤ 69) : Inv (opn σ x) := by
  have c10 := hI.c10
  have t60 := hI.T60
  have n1 : nC (opn σ x) = nC σ := by unfold nC; rw [opn_ne (by omega) (by omega)]
  have n6 : nT (opn σ x) = nT σ := by unfold nT; rw [opn_ne (by omega) (by omega)]
  have n0 := opn_0 hI (x := x)
  obtain ⟨i0, i1, i4, i5, i6, i7, ic, hS, hC, hT, hB⟩ := hI
  refine ⟨?_, by rw [opn_ne (by omega) (by omega)]; exact i1, by rw [opn_ne (by omega) (by omega)]; exact i4, by rw [opn_ne (by omega) (by omega)]; exact i5, by rw [opn_ne (by omega) (by omega)]; exact i6, by rw [opn_ne (by omega) (by omega)]; exact i7, fun g hg => by rw [opn_ne (by omega) (by omega)]; exact ic g hg, fun k hk => ?_, fun c hc => ?_, fun u hu => ?_, fun j hj => ?_⟩
  · unfold opn
    rw [upd_same]
    exact nI_rg (n := 6) (by omega) (by omega)
  · rw [n0] at hk
    by_cases q : k = nS σ
    · rw [q]
      obtain ⟨v, -, hv, e⟩ := lit_rg 0 69 rfl rfl (by omega) (by omega) hx
      have ha := open_all v hv
      rw [← e] at ha
      have zg : rg (0 : Int32) 0 9 := by unfold rg; decide
      refine ⟨by rw [opn_k]; exact ha.1, by rw [opn_m]; exact ha.2, ?_, fun g hg => ?_, fun g hg => ?_⟩
      · rw [opn_z (by omega) (by omega)]; unfold rg; decide
      · rw [opn_z (by omega) (by omega)]; exact zg
      · rw [opn_z (by omega) (by omega)]; unfold rg; decide
    · refine ShopOk.mk (fun j hj => ?_)
      rw [opn_ne (by omega) (by omega)]
      exact (hS k (by omega)).at hj
  · rw [n1] at hc
    exact (hC c hc).eq (by omega) (fun j h1 h2 => opn_ne (by omega) (by omega))
  · exact (hT u hu).eq (txt_eq hu (fun j h1 h2 => opn_ne (by omega) (by omega)))
  · rw [n6] at hj
    rw [opn_ne (by omega) (by omega)]
    exact hB j hj
theorem had0 : ∀ g, g < 6 → isr (0 : Int32) (nI g) &&& 1 = 0 := by decide +kernel
theorem open7 {w : Nat} {μ : Mem} {σ : Nat → Int32} (h : RepW μ w σ) (hI : Inv σ) (x : Int32) (hn : nS σ < 6) : ∃ μ1, f_X5_open (w + 7 + 3 * nS σ) (x / 10) (irm x 10) μ = some (0, μ1) ∧ μ1 w 4 = nI (nS σ) ∧ RepW (mset μ1 w 4 (nI (nS σ + 1))) w (opn σ x) ∧ FrW w μ (mset μ1 w 4 (nI (nS σ + 1))) := by
  generalize hk : nS σ = k at hn
  unfold f_X5_open
  rw [bnd_eq, bnd_eq, bnd_eq, bnd_eq, fill7 (by omega), cal_some, fill7 (by omega), cal_some, locB, locC]
  generalize hm4 : mset (mset (mset (mset μ (w + 7 + 3 * k) 0 (x / 10)) (w + 7 + 3 * k) 1 (irm x 10)) (w + 7 + 3 * k) 2 0) (w + 7 + 3 * k) 5 0 = m4
  have a4 : ∀ l, l ≠ w + 7 + 3 * k → m4 l = μ l := fun l hl => by rw [← hm4, mset_row hl, mset_row hl, mset_row hl, mset_row hl]
  have v0 : m4 (w + 7 + 3 * k) 0 = x / 10 := by rw [← hm4, mset_ne (by omega), mset_ne (by omega), mset_ne (by omega), mset_self]
  have v1 : m4 (w + 7 + 3 * k) 1 = irm x 10 := by rw [← hm4, mset_ne (by omega), mset_ne (by omega), mset_self]
  have v2 : m4 (w + 7 + 3 * k) 2 = 0 := by rw [← hm4, mset_ne (by omega), mset_self]
  have v5 : m4 (w + 7 + 3 * k) 5 = 0 := by rw [← hm4, mset_self]
  generalize hm5 : sR (sR m4 (w + 8 + 3 * k) (fun j => if j < 6 then 0 else m4 (w + 8 + 3 * k) j)) (w + 9 + 3 * k) (fun j => if j < 6 then 0 else sR m4 (w + 8 + 3 * k) (fun j => if j < 6 then 0 else m4 (w + 8 + 3 * k) j) (w + 9 + 3 * k) j) = m5
  have a5 : ∀ l, l ≠ w + 8 + 3 * k → l ≠ w + 9 + 3 * k → m5 l = m4 l := fun l h1 h2 => by rw [← hm5, sR_ne h2, sR_ne h1]
  have v8 : ∀ j, j < 6 → m5 (w + 8 + 3 * k) j = 0 := fun j hj => by
    rw [← hm5, sR_ne (by omega), sR_same]
    exact if_pos hj
  have v9 : ∀ j, j < 6 → m5 (w + 9 + 3 * k) j = 0 := fun j hj => by
    rw [← hm5, sR_same]
    exact if_pos hj
  have m5w : m5 w 4 = nI k := by rw [a5 w (by omega) (by omega), a4 w (by omega), rd_n h, hI.s0, hk]
  generalize hm6 : mset m5 w 4 (nI (k + 1)) = m6
  have a6 : ∀ l f, ¬ (l = w ∧ f = 4) → m6 l f = m5 l f := fun l f hh => by rw [← hm6]; exact mset_ne hh
  have ao : ∀ l f, l < w + 7 + 3 * k ∨ w + 10 + 3 * k ≤ l → ¬ (l = w ∧ f = 4) → m6 l f = μ l f := fun l f h1 h2 => by rw [a6 l f h2, a5 l (by omega) (by omega), a4 l (by omega)]
  have kh : ∀ l, l < w ∨ w + 41 ≤ l → m6 l = μ l := fun l hl => funext (fun f => ao l f (by omega) (by omega))
  refine ⟨m5, rfl, m5w, ⟨fun i p hi hl => ?_, fun k' hk' g hg => ?_, fun u hu => ?_⟩, fun l hl => ?_⟩
  · rw [hm6]
    obtain ⟨l1, l2, l3, l4⟩ := hl
    rw [opn_0 hI, hk] at l1
    have hb := am_bk hi
    by_cases q : 16 + 21 * k ≤ i ∧ i < 37 + 21 * k
    · have hr : ∃ r, r < 15 ∧ i = 16 + 21 * k + r := ⟨i - (16 + 21 * k), by have := hb.2.2.2.1 (by omega) (by omega); omega, by omega⟩
      obtain ⟨r, hr, e⟩ := hr
      rcases (show r = 0 ∨ r = 1 ∨ r = 2 ∨ (3 ≤ r ∧ r < 9) ∨ 9 ≤ r by omega) with q0 | q1 | q2 | q3 | q4
      · subst q0
        have : p = (7 + 3 * k, 0) := Option.some.inj ((e ▸ hi).symm.trans (am_kind k hn))
        subst this
        rw [a6 _ _ (by omega), ← Nat.add_assoc, a5 _ (by omega) (by omega)]
        show m4 (w + 7 + 3 * k) 0 = _
        rw [v0, e, ← hk]
        exact opn_k.symm
      · subst q1
        have : p = (7 + 3 * k, 1) := Option.some.inj ((e ▸ hi).symm.trans (by rw [show 16 + 21 * k + 1 = 17 + 21 * k by omega]; exact am_m k hn))
        subst this
        rw [a6 _ _ (by omega), ← Nat.add_assoc, a5 _ (by omega) (by omega)]
        show m4 (w + 7 + 3 * k) 1 = _
        rw [v1, e, ← hk, show 16 + 21 * nS σ + 1 = 17 + 21 * nS σ by omega]
        exact opn_m.symm
      · subst q2
        have : p = (7 + 3 * k, 2) := Option.some.inj ((e ▸ hi).symm.trans (by rw [show 16 + 21 * k + 2 = 18 + 21 * k by omega]; exact am_purse k hn))
        subst this
        rw [a6 _ _ (by omega), ← Nat.add_assoc, a5 _ (by omega) (by omega)]
        show m4 (w + 7 + 3 * k) 2 = _
        rw [v2, opn_z (by omega) (by omega)]
      · have : p = (8 + 3 * k, r - 3) := Option.some.inj ((e ▸ hi).symm.trans (by rw [show 16 + 21 * k + r = 19 + 21 * k + (r - 3) by omega]; exact am_keeps k hn (r - 3) (by omega)))
        subst this
        rw [a6 _ _ (by omega), ← Nat.add_assoc, opn_z (by omega) (by omega)]
        exact v8 (r - 3) (by omega)
      · have : p = (9 + 3 * k, r - 9) := Option.some.inj ((e ▸ hi).symm.trans (by rw [show 16 + 21 * k + r = 25 + 21 * k + (r - 9) by omega]; exact am_stock k hn (r - 9) (by omega)))
        subst this
        rw [a6 _ _ (by omega), ← Nat.add_assoc, opn_z (by omega) (by omega)]
        exact v9 (r - 9) (by omega)
    · by_cases q0 : i = 0
      · subst q0
        have : p = (0, 4) := Option.some.inj (hi.symm.trans rfl)
        subst this
        rw [← hm6]
        show mset m5 w 4 (nI (k + 1)) w 4 = _
        rw [mset_self]
        unfold opn
        rw [upd_same, hk]
      · rw [opn_ne (by omega) q0]
        have hlv : lve σ i := by
          unfold nC at l2
          unfold nT at l3
          unfold nW at l4
          rw [opn_ne (by omega) (by omega)] at l2 l3 l4
          exact ⟨fun a b => by have := l1 a b; omega, l2, l3, l4⟩
        rw [← h.1 i p hi hlv]
        refine ao _ _ ?_ (fun e => q0 ?_)
        · rcases am_sh hi with ⟨-, e, m⟩ | ⟨-, -, e, m⟩ | ⟨a, b, e⟩ | ⟨a, b, e, m⟩ | ⟨a, b, e, m⟩ | ⟨a, b, e, m⟩
          · omega
          · omega
          · have := hlv.1 a b
            omega
          · omega
          · omega
          · omega
        · have : p = (0, 4) := Prod.ext (by omega) e.2
          rw [this] at hi
          exact am_inj hi (show am 0 = some (0, 4) from rfl)
  · rw [opn_0 hI, hk] at hk'
    rw [hm6]
    by_cases q : k' = k
    · rw [q, a6 _ _ (by omega), a5 _ (by omega) (by omega), v5, opn_z (by omega) (by omega)]
      exact ⟨fun _ => rfl, fun _ => had0 g hg⟩
    · rw [ao _ _ (by omega) (by omega), opn_ne (by omega) (by omega)]
      exact h.2.1 k' (by omega) g hg
  · have t60 := hI.t60 u hu
    rw [hm6, opn_ne (by omega) (by omega)]
    refine ⟨?_, fun i hi => ?_⟩
    · rw [ao _ _ (by omega) (by omega)]
      exact (h.2.2 u hu).1
    · rw [ao _ _ (by omega) (by omega), opn_ne (by omega) (by omega), opn_ne (by omega) (by omega)]
      exact (h.2.2 u hu).2 i hi
  · rw [hm6]
    exact kh l hl
theorem shop42 {k : Nat} (hk : k < 6) (x : Int32) : ∀ d i (μ : Mem) (σ : Nat → Int32) n, i + d = 21 → d < n → μ 143 = σ → X9_shop_L42 n 142 x (nI k) (nI i) μ = some (nI k, sR μ 143 (upd (upd (upd (zr σ k i) (16 + 21 * k) (x / 10)) (17 + 21 * k) (irm x 10)) 0 (zr σ k i 0 + 1))) := by
  intro d
  induction d with
  | zero =>
    intro i μ σ n hi hn h
    obtain ⟨n, rfl⟩ : ∃ m, n = m + 1 := ⟨n - 1, by omega⟩
    have hz : zr σ k i = σ := by
      funext j
      unfold zr
      rw [if_neg (by omega)]
    rw [hz]
    have l0 := lays9' (μ := μ) (k := k) (j := 0) (x := 0) rfl (by omega) (x / 10)
    have l1 := lays9' (μ := sR μ 143 (upd (μ 143) (16 + 21 * k + 0) (x / 10))) (k := k) (j := 1) (x := 1) rfl (by omega) (irm x 10)
    rw [sR_same, sR_sR] at l1
    show X9_shop_L42B _ 142 x (nI k) (nI i) μ = _
    unfold X9_shop_L42B
    rw [if_pos ((lit_le (x := 21) 21 rfl (by omega) (by omega : i < 2 ^ 31)).mpr (by omega)), gd_nz (by decide), l0, cal_some, gd_nz (by decide), l1, cal_some, show inb (0 : Int32) 516 = true from by decide, gd_t, gd_t, bnd_eq, z0, show (142 + 1 : Nat) = 143 from rfl, mset_sR, sR_same, sR_sR, h, show 16 + 21 * k + 1 = 17 + 21 * k by omega, show 16 + 21 * k + 0 = 16 + 21 * k by omega, upd_ne (f := upd σ (16 + 21 * k) (x / 10)) (by omega), upd_ne (f := σ) (by omega)]
  | succ d ih =>
    intro i μ σ n hi hn h
    obtain ⟨n, rfl⟩ : ∃ m, n = m + 1 := ⟨n - 1, by omega⟩
    have hz : zr (upd σ (16 + 21 * k + i) 0) k (i + 1) = zr σ k i := by
      funext j
      unfold zr
      by_cases e : j = 16 + 21 * k + i
      · rw [if_neg (by omega), if_pos (by omega), e, upd_same]
      · rw [upd_ne e]
        by_cases q : 16 + 21 * k + i ≤ j ∧ j < 37 + 21 * k
        · rw [if_pos q, if_pos (by omega)]
        · rw [if_neg q, if_neg (by omega)]
    show X9_shop_L42B _ 142 x (nI k) (nI i) μ = _
    unfold X9_shop_L42B
    rw [if_neg (fun q => absurd ((lit_le (x := 21) 21 rfl (by omega) (by omega : i < 2 ^ 31)).mp q) (by omega)), lays9 (by omega), cal_some, bnd_eq, nI_s, ih (i + 1) _ _ n (by omega) (by omega) (sR_same _ _ _), sR_sR, h, hz]
section OPS6
variable {μ : Mem}
theorem sim_shop (h : Rel μ) (x : Int32) : Sm (f_X8_shop 0 x μ) (f_X9_shop 142 x) := by
  obtain ⟨h1, h2, h3⟩ := id h
  have h6 := h2.n6
  have hs := h2.s0
  by_cases c1 : (0 : Int32) ≤ x ∧ x ≤ 69
  · by_cases c2 : nS (μ 143) = 6
    · rw [c2] at hs
      refine Sm.er h (k := 4) (by omega) ?_ (fun m e _ => ?_)
      · unfold f_X8_shop
        rw [within_eq, cal_some, b2_t c1, if_neg (by decide), Nat.zero_add, rd_n h1, hs, if_neg (by decide)]
        exact cal_e _
      · unfold f_X9_shop
        rw [in_eq, cal_some, b2_t c1, if_neg (by decide), show inb (0 : Int32) 516 = true from by decide, gd_t, ix143 e, z0, hs, if_pos (by decide)]
        exact cal_e _
    · have hlt : nS (μ 143) < 6 := by omega
      obtain ⟨μ1, a1, b1, r1, f1⟩ := open7 h1 h2 x hlt
      have hm := f1.c1 143 (by omega)
      have hn : nI (nS (μ 143)) < 6 := (nI_ltI (b := 6) (by omega) (by omega)).mpr hlt
      have hX : f_X8_shop 0 x μ = some (nI (nS (μ 143)), mset μ1 1 4 (nI (nS (μ 143) + 1))) := by
        unfold f_X8_shop
        rw [within_eq, cal_some, b2_t c1, if_neg (by decide), Nat.zero_add, rd_n h1, hs, if_pos hn, inb_nI (by omega) (by omega), gd_t, gd_nz (by decide), gd_nz (by decide), clamp_nI (by omega), locA, a1, cal_some, bnd_eq, b1, nI_s, mset_self, nI_pred1 (by omega)]
        rfl
      refine Sm.mk h hX r1 f1.c1 (opn_inv h2 hlt c1) ⟨sR (mset μ1 1 4 (nI (nS (μ 143) + 1))) 143 (opn (μ 143) x), ?_, sR_same _ _ _, FrM.s143 _ _⟩
      have e42 := shop42 (k := nS (μ 143)) hlt x 21 0 _ _ FU (by omega) (by decide) hm
      have hz : zr (μ 143) (nS (μ 143)) 0 0 + 1 = nI (nS (μ 143) + 1) := by
        unfold zr
        rw [if_neg (by omega), hs, nI_s]
      rw [hz] at e42
      unfold f_X9_shop
      rw [in_eq, cal_some, b2_t c1, if_neg (by decide), show inb (0 : Int32) 516 = true from by decide, gd_t, ix143 hm, z0, hs, if_neg (fun q => absurd (q ▸ hn) (by decide)), gd_t, bnd_eq]
      exact e42
  · refine Sm.er h (k := 1) (by omega) ?_ (fun m e _ => ?_)
    · unfold f_X8_shop
      rw [within_eq, cal_some, b2_f c1, if_pos rfl]
      exact cal_e _
    · unfold f_X9_shop
      rw [in_eq, cal_some, b2_f c1, if_pos rfl]
      exact cal_e _
end OPS6
/-- bytes -/
def fdG (b : Int64) (T : Nat) : Nat → Nat → (Nat → Int32) → (Nat → Int32)
  | 0, _, σ => σ
  | d + 1, i, σ => fdG b T d (i + 1) (upd σ (432 + (T + i)) (byt b i))
theorem fdG_at (b : Int64) (T : Nat) : ∀ d i (σ : Nat → Int32) j, fdG b T d i σ j = if 432 + (T + i) ≤ j ∧ j < 432 + (T + i) + d then byt b (j - (432 + T)) else σ j := by
  intro d
  induction d with
  | zero => intro i σ j; rw [if_neg (by omega)]; rfl
  | succ d ih =>
    intro i σ j
    show fdG b T d (i + 1) (upd σ (432 + (T + i)) (byt b i)) j = _
    rw [ih (i + 1)]
    by_cases c : 432 + (T + (i + 1)) ≤ j ∧ j < 432 + (T + (i + 1)) + d
    · rw [if_pos c, if_pos (by omega)]
    · rw [if_neg c]
      by_cases e : j = 432 + (T + i)
      · rw [e, upd_same, if_pos (by omega)]
        congr 1
        omega
      · rw [upd_ne e, if_neg (by omega)]
theorem fdG_6 (b : Int64) (T : Nat) (v : Int32) : ∀ d i (σ : Nat → Int32), upd (fdG b T d i σ) 6 v = fdG b T d i (upd σ 6 v) := by
  intro d
  induction d with
  | zero => intro i σ; rfl
  | succ d ih =>
    intro i σ
    show upd (fdG b T d (i + 1) (upd σ (432 + (T + i)) (byt b i))) 6 v = fdG b T d (i + 1) (upd (upd σ 6 v) (432 + (T + i)) (byt b i))
    rw [ih, upd_comm (by omega)]
theorem feed8 (b : Int64) {T x : Nat} (hT : T + x ≤ 60) (hx8 : x ≤ 8) : ∀ d i (P : Nat → Prop) (μ : Mem) (σ : Nat → Int32) n, i + d = x → d < n → μ 1 12 = nI T → RepX μ 1 σ P → HadR μ 1 σ → TxtR μ 1 σ → nS σ ≤ 6 → (∀ u, u < 2 → (σ (182 + 125 * u)).toNatClampNeg ≤ 60) →
    ∃ μ', X8_feed_L39 n 0 b (nI x) (nI i) μ = some (nI (T + x), mset μ' 1 12 (nI (T + x))) ∧ RepX μ' 1 (fdG b T d i σ) (fun j => P j ∨ (432 + (T + i) ≤ j ∧ j < 432 + (T + x))) ∧ HadR μ' 1 (fdG b T d i σ) ∧ TxtR μ' 1 (fdG b T d i σ) ∧ FrW 1 μ μ' := by
  intro d
  induction d with
  | zero =>
    intro i P μ σ n hi hn h12 h1 h2 h3 h6 h60
    obtain ⟨n, rfl⟩ : ∃ m, n = m + 1 := ⟨n - 1, by omega⟩
    refine ⟨μ, ?_, h1.mono (fun j hj => hj.resolve_right (by omega)), h2, h3, FrW.rf 1 μ⟩
    show X8_feed_L39B _ 0 b (nI x) (nI i) μ = _
    unfold X8_feed_L39B
    rw [if_pos ((nI_leq (by omega) (by omega)).mpr (by omega)), bnd_eq, Nat.zero_add, h12, nI_add, mset_self]
  | succ d ih =>
    intro i P μ σ n hi hn h12 h1 h2 h3 h6 h60
    obtain ⟨n, rfl⟩ : ∃ m, n = m + 1 := ⟨n - 1, by omega⟩
    have am1 := am_tape (T + i) (by omega)
    obtain ⟨m, a, b1, c, e, f⟩ := ih (i + 1) (fun j => P j ∨ j = 432 + (T + i)) (mset μ (1 + 5) (T + i) (byt b i)) (upd σ (432 + (T + i)) (byt b i)) n (by omega) (by omega) (by rw [mset_row (by omega)]; exact h12) (h1.wr am1 (byt b i)) (h2.wr h6 am1 (by omega) _) (h3.wr h60 am1 _) (by unfold nS; rw [upd_ne (by omega)]; exact h6) (fun u hu => by rw [upd_ne (by omega)]; exact h60 u hu)
    refine ⟨m, ?_, b1.mono (fun j hj => ?_), c, e, (FrW.ms (w := 1) (a := 5) (by omega)).tr f⟩
    · show X8_feed_L39B _ 0 b (nI x) (nI i) μ = _
      unfold X8_feed_L39B
      rw [if_neg (fun q => absurd ((nI_leq (by omega) (by omega)).mp q) (by omega)), Nat.zero_add, h12, nI_add, inb_nI (by omega) (by omega), gd_t, bnd_eq, bnd_eq, nI_s, clamp_nI (by omega)]
      exact a
    · rcases hj with q | q
      · exact Or.inl (Or.inl q)
      · by_cases e : j = 432 + (T + i)
        · exact Or.inl (Or.inr e)
        · exact Or.inr ⟨by omega, by omega⟩
theorem feed9 (b : Int64) {T x : Nat} (hT : T + x ≤ 60) (hx8 : x ≤ 8) : ∀ d i (μ : Mem) (σ : Nat → Int32) n, i + d = x → d < n → μ 143 = σ → σ 6 = nI (T + i) → X9_feed_L39 n 142 b (nI x) (nI i) μ = some (nI (T + x), sR μ 143 (upd (fdG b T d i σ) 6 (nI (T + x)))) := by
  have e6 : (6 : Int32).toNatClampNeg = 6 := by decide
  intro d
  induction d with
  | zero =>
    intro i μ σ n hi hn h h6
    obtain ⟨n, rfl⟩ : ∃ m, n = m + 1 := ⟨n - 1, by omega⟩
    have ei : i = x := by omega
    subst ei
    have hid : sR μ 143 (upd (fdG b T 0 i σ) 6 (nI (T + i))) = μ := by
      show sR μ 143 (upd σ 6 (nI (T + i))) = μ
      rw [← h6, upd_id, ← h, sR_id]
    rw [hid]
    show X9_feed_L39B _ 142 b (nI i) (nI i) μ = _
    unfold X9_feed_L39B
    rw [if_pos ((nI_leq (by omega) (by omega)).mpr (by omega)), show inb (6 : Int32) 516 = true from by decide, gd_t, ix143 h, e6, h6]
  | succ d ih =>
    intro i μ σ n hi hn h h6
    obtain ⟨n, rfl⟩ : ∃ m, n = m + 1 := ⟨n - 1, by omega⟩
    have hix : (432 : Int32) + nI (T + i) = nI (432 + (T + i)) := by
      show nI 432 + nI (T + i) = _
      rw [nI_add]
    have hg := ih (i + 1) (sR μ 143 (upd (upd σ (432 + (T + i)) (byt b i)) 6 (nI (T + (i + 1))))) _ n (by omega) (by omega) (sR_same _ _ _) (upd_same _ _ _)
    rw [sR_sR, ← fdG_6, upd_upd] at hg
    show X9_feed_L39B _ 142 b (nI x) (nI i) μ = _
    unfold X9_feed_L39B
    rw [if_neg (fun q => absurd ((nI_leq (by omega) (by omega)).mp q) (by omega)), show inb (6 : Int32) 516 = true from by decide, gd_t, ix143 h, e6, h6, hix, inb_nI (by omega) (by omega), gd_t, bnd_eq, gd_t, gd_t, bnd_eq, bnd_eq, nI_s, clamp_nI (by omega), byt_eq b (by omega), show (142 + 1 : Nat) = 143 from rfl]
    rw [show mset μ 143 (432 + (T + i)) (byt b i) 143 6 = nI (T + i) from by rw [mset_ne (by omega), h, h6], nI_s, mset_sR μ, mset_sR, sR_sR, sR_same, h]
    exact hg
section OPS7
variable {μ : Mem}
theorem sim_feed (h : Rel μ) (b : Int64) (x : Int32) : Sm (f_X8_feed 0 b x μ) (f_X9_feed 142 b x) := by
  obtain ⟨h1, h2, h3⟩ := id h
  have h60 := h2.T60
  have hs := h2.s6
  have e6 : (6 : Int32).toNatClampNeg = 6 := by decide
  by_cases c1 : (1 : Int32) ≤ x ∧ x ≤ 8
  · obtain ⟨k, k1, k8, e1⟩ := lit_rg 1 8 rfl rfl (by omega) (by omega) c1
    by_cases c2 : nT (μ 143) + k ≤ 60
    · generalize hT : nT (μ 143) = T at *
      have hle : nI T + nI k ≤ 60 := by
        rw [nI_add]
        exact (nI_leI (b := 60) (by omega) (by omega)).mpr c2
      obtain ⟨μ1, a1, r1, d1, t1, f1⟩ := feed8 b c2 k8 k 0 (lve (μ 143)) μ (μ 143) FU (by omega) (by rw [FU_eq]; omega) (by rw [rd_taped h1, hs]) h1.1 h1.2.1 h1.2.2 h2.n6 h2.t60
      generalize hσ : fdG b T k 0 (μ 143) = σ1 at *
      have oth : ∀ j, j < 432 + T ∨ 432 + (T + k) ≤ j → σ1 j = μ 143 j := fun j hj => by rw [← hσ, fdG_at, if_neg (by omega)]
      have n0 : nS σ1 = nS (μ 143) := by unfold nS; rw [oth 0 (by omega)]
      have n1 : nC σ1 = nC (μ 143) := by unfold nC; rw [oth 1 (by omega)]
      have n7 : nW σ1 = nW (μ 143) := by unfold nW; rw [oth 7 (by omega)]
      have nt : nT (upd σ1 6 (nI (T + k))) = T + k := by unfold nT; rw [upd_same]; exact clamp_nI (by omega)
      have hI' : Inv (upd σ1 6 (nI (T + k))) := by
        refine h2.cnts (fun i a b c d => by rw [upd_ne c, oth i (by omega)]) (by rw [upd_ne (by omega), oth 1 (by omega)]; exact h2.2.1) (by rw [upd_same]; exact nI_rg (n := 60) (by omega) (by omega)) (by rw [upd_ne (by omega), oth 7 (by omega)]; exact h2.r7) (fun c hc => ?_) (fun i hi => ?_)
        · have h10 := h2.c10
          have hc2 : c < nC (μ 143) := by
            rw [← n1]
            unfold nC at hc ⊢
            rwa [upd_ne (by omega)] at hc
          exact (h2.cust c hc2).eq (by omega) (fun i a b => by rw [upd_ne (by omega), oth i (by omega)])
        · rw [nt] at hi
          rw [upd_ne (by omega)]
          by_cases q : i < T
          · rw [oth _ (by omega)]
            exact h2.tape i (by rw [hT]; exact q)
          · rw [← hσ, fdG_at, if_pos (by omega)]
            exact byt_rg b _
      have hm : mset μ1 1 12 (nI (T + k)) 143 = μ 143 := by rw [mset_row (by omega)]; exact f1.c1 143 (by omega)
      have hX : f_X8_feed 0 b x μ = some (nI (T + k), mset μ1 1 12 (nI (T + k))) := by
        unfold f_X8_feed
        rw [within_eq, cal_some, b2_t c1, if_neg (by decide), Nat.zero_add, rd_taped h1, hs, e1, if_pos hle]
        exact a1
      refine Sm.mk h hX (σ' := upd σ1 6 (nI (T + k))) ⟨?_, d1.wr (by rw [n0]; exact h2.n6) (i := 6) (p := (0, 12)) rfl (by omega) _, t1.wr (fun u hu => by rw [oth _ (by omega)]; exact h2.t60 u hu) (i := 6) (p := (0, 12)) rfl _⟩ (f1.tr (FrW.m0 (w := 1))).c1 hI' ⟨_, ?_, sR_same _ _ _, FrM.s143 _ _⟩
      · refine (r1.wr (i := 6) (p := (0, 12)) rfl _).mono (fun j hj => ?_)
        obtain ⟨l1, l2, l3, l4⟩ := hj
        rw [nt] at l3
        unfold nS at l1
        unfold nC at l2
        unfold nW at l4
        rw [upd_ne (by omega), oth _ (by omega)] at l1 l2 l4
        by_cases q : 432 + T ≤ j ∧ j < 432 + (T + k)
        · exact Or.inl (Or.inr (by omega))
        · refine Or.inl (Or.inl ⟨l1, l2, fun a b => ?_, l4⟩)
          have := l3 a b
          rw [hT]
          omega
      · have := feed9 b c2 k8 k 0 _ _ FU (by omega) (by rw [FU_eq]; omega) hm (by rw [hs]; rfl)
        rw [hσ] at this
        unfold f_X9_feed
        rw [in_eq, cal_some, b2_t c1, if_neg (by decide), show inb (6 : Int32) 516 = true from by decide, gd_t, ix143 hm, e6, hs, e1, if_pos hle]
        exact this
    · have hle : ¬ nI (nT (μ 143)) + nI k ≤ 60 := by
        rw [nI_add]
        exact fun q => c2 ((nI_leI (b := 60) (by omega) (by omega)).mp q)
      refine Sm.er h (k := 4) (by omega) ?_ (fun m e _ => ?_)
      · unfold f_X8_feed
        rw [within_eq, cal_some, b2_t c1, if_neg (by decide), Nat.zero_add, rd_taped h1, hs, e1, if_neg hle]
        exact cal_e _
      · unfold f_X9_feed
        rw [in_eq, cal_some, b2_t c1, if_neg (by decide), show inb (6 : Int32) 516 = true from by decide, gd_t, ix143 e, e6, hs, e1, if_neg hle]
        exact cal_e _
  · refine Sm.er h (k := 1) (by omega) ?_ (fun m e _ => ?_)
    · unfold f_X8_feed
      rw [within_eq, cal_some, b2_f c1, if_pos rfl]
      exact cal_e _
    · unfold f_X9_feed
      rw [in_eq, cal_some, b2_f c1, if_pos rfl]
      exact cal_e _
end OPS7
