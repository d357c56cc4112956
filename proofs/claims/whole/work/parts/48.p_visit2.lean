/-! PURE 13: a customer goes along, by the class and by the model -/
theorem irm_all : ∀ i, i ≤ 12 → ∀ n, n ≤ 6 → n = 0 ∨ irm (nI i) (nI n) = nI (i % n) := by decide +kernel
def cS (σ : Nat → Int32) (c : Nat) : Nat := (σ (143 + 4 * c)).toNatClampNeg
def stp (σ : Nat → Int32) (c : Nat) : Nat := if σ 4 = 1 ∧ ¬ nS σ = 0 then cS σ c else min (cS σ c) (nS σ)
def plc (σ : Nat → Int32) (c i : Nat) : Nat := if σ (144 + 4 * c) = 0 then i % nS σ else nS σ - 1 - i % nS σ
def visGo (σ0 : Nat → Int32) (c : Nat) : Nat → Nat → VS → VS
  | 0, _, s => s
  | d + 1, i, s => visGo σ0 c d (i + 1) (atShop (σ0 (142 + 4 * c)) (plc σ0 c i) 6 0 s)
def vis (σ : Nat → Int32) (c : Nat) : VS := visGo σ c (stp σ c) 0 (σ, σ (145 + 4 * c), 0)
theorem plc_lt {σ : Nat → Int32} {c i : Nat} (h : 0 < nS σ) : plc σ c i < nS σ := by
  unfold plc
  have := Nat.mod_lt i h
  split <;> omega
theorem cS_ok {σ : Nat → Int32} (hI : Inv σ) {c : Nat} (hc : c < nC σ) : cS σ c ≤ 12 ∧ 1 ≤ cS σ c ∧ σ (143 + 4 * c) = nI (cS σ c) := by
  obtain ⟨h1, h2⟩ := (hI.cust c hc).2.1
  have h3 : rg (σ (143 + 4 * c)) 0 (12 : Nat) := ⟨by omega, by omega⟩
  have h4 := rg_clamp (n := 12) h3 (by omega)
  refine ⟨h4.1, ?_, h4.2⟩
  rcases Nat.eq_zero_or_pos (cS σ c) with q | q
  · unfold cS at q
    rw [q] at h4
    rw [h4.2] at h1
    exact absurd h1 (by decide)
  · exact q
theorem stp_ok {σ : Nat → Int32} (hI : Inv σ) {c : Nat} (hc : c < nC σ) : stp σ c ≤ 12 ∧ (nS σ = 0 → stp σ c = 0) := by
  have := cS_ok hI hc
  unfold stp
  split
  · rename_i q
    exact ⟨this.1, fun e => absurd e q.2⟩
  · omega
theorem visGo_ok {σ0 : Nat → Int32} {c : Nat} (h0 : 0 < nS σ0) : ∀ d i (s : VS), VOk σ0 s → VOk σ0 (visGo σ0 c d i s) := by
  intro d
  induction d with
  | zero => intro i s h; exact h
  | succ d ih => intro i s h; exact ih (i + 1) _ (atShop_ok (plc_lt h0) 6 0 s (by omega) h)
theorem visGo_full {σ0 : Nat → Int32} {c : Nat} (hW : rg (σ0 (142 + 4 * c)) 0 63) : ∀ d i (s : VS), s.2.2 = σ0 (142 + 4 * c) → visGo σ0 c d i s = s := by
  intro d
  induction d with
  | zero => intro i s h; rfl
  | succ d ih =>
    intro i s h
    show visGo σ0 c d (i + 1) (atShop (σ0 (142 + 4 * c)) (plc σ0 c i) 6 0 s) = s
    rw [atShop_full hW 6 0 s (by omega) h]
    exact ih (i + 1) s h
theorem VOk.rf {σ : Nat → Int32} (hI : Inv σ) (x : Int32) : VOk σ (σ, x, 0) := ⟨hI, rfl, fun _ _ => rfl, by show rg 0 0 63; unfold rg; decide⟩
theorem vis_ok {σ : Nat → Int32} (hI : Inv σ) {c : Nat} (hc : c < nC σ) : VOk σ (vis σ c) := by
  unfold vis
  rcases Nat.eq_zero_or_pos (nS σ) with q | q
  · rw [(stp_ok hI hc).2 q]
    exact VOk.rf hI _
  · exact visGo_ok q _ _ _ (VOk.rf hI _)
theorem place7 {w c : Nat} {σ0 : Nat → Int32} {μ : Mem} {s : VS} (h : RepW μ w s.1) (hs : VOk σ0 s) (hI0 : Inv σ0) (h0 : 0 < nS σ0) {i : Nat} (hi : i ≤ 12) : f_X7_placeOf w (σ0 (144 + 4 * c)) (nI i) μ = some (nI (plc σ0 c i), μ) := by
  have h6 := hI0.n6
  obtain ⟨hI, hn, ho, -⟩ := hs
  have hm : μ w 4 = nI (nS σ0) := by rw [rd_n h, ho 0 (by omega)]; exact hI0.s0
  have hne : ¬ nI (nS σ0) = 0 := fun q => absurd (nI_inj (a := nS σ0) (b := 0) q (by omega) (by omega)) (by omega)
  have hlt := Nat.mod_lt i h0
  unfold f_X7_placeOf X7_placeOf_J17 X7_placeOf_J34 plc
  rw [hm, if_neg hne, gd_nz hne, ((irm_all i hi (nS σ0) h6).resolve_left (by omega))]
  by_cases q : σ0 (144 + 4 * c) = 0
  · rw [if_pos q, if_pos q]
  · rw [if_neg q, if_neg q, nI_pred1 h0, nI_sub (by omega)]
theorem along7 {w c : Nat} {σ0 : Nat → Int32} (hI0 : Inv σ0) (hc : c < nC σ0) (h0 : 0 < nS σ0) : ∀ d i (μ : Mem) (s : VS) n, i + d = stp σ0 c → d < n → RepW μ w s.1 → VOk σ0 s →
    PW w μ (X7_goAlong_L53 n w (w + 25 + c) (nI (stp σ0 c)) s.2.1 s.2.2 (nI i) μ) (visGo σ0 c d i s).2.2 (visGo σ0 c d i s).1 := by
  have h6 := hI0.n6
  have h12 := (stp_ok hI0 hc).1
  have hc10 := hI0.c10
  have hW : rg (σ0 (142 + 4 * c)) 0 63 := (hI0.cust c hc).1
  intro d
  induction d with
  | zero =>
    intro i μ s n hi hn h hs
    obtain ⟨n, rfl⟩ : ∃ m, n = m + 1 := ⟨n - 1, by omega⟩
    refine ⟨μ, ?_, h, FrW.rf w μ⟩
    show X7_goAlong_L53B _ w (w + 25 + c) (nI (stp σ0 c)) s.2.1 s.2.2 (nI i) μ = _
    unfold X7_goAlong_L53B X7_goAlong_J192
    rw [if_pos ((nI_leq (by omega) (by omega)).mpr (by omega))]
    rfl
  | succ d ih =>
    intro i μ s n hi hn h hs
    obtain ⟨n, rfl⟩ : ∃ m, n = m + 1 := ⟨n - 1, by omega⟩
    obtain ⟨hI, hn0, ho, hr⟩ := hs
    have hcn : nC s.1 = nC σ0 := by unfold nC; rw [ho 1 (by omega)]
    have hwant : μ (w + 25 + c) 0 = σ0 (142 + 4 * c) := by
      have := rd_cust h hI (c := c) (j := 0) (by omega) (by omega)
      rw [this]
      exact ho _ (by omega)
    have hdir : μ (w + 25 + c) 2 = σ0 (144 + 4 * c) := by
      have := rd_cust h hI (c := c) (j := 2) (by omega) (by omega)
      rw [this, ho _ (by omega)]
      congr 1
      omega
    have hunf : X7_goAlong_L53 (n + 1) w (w + 25 + c) (nI (stp σ0 c)) s.2.1 s.2.2 (nI i) μ = (if s.2.2 = σ0 (142 + 4 * c) then some (s.2.2, μ) else X7_goAlong_L83 (X7_goAlong_L53 n) FU w (w + 25 + c) (nI (stp σ0 c)) s.2.1 s.2.2 (nI i) (nI (plc σ0 c i)) 0 μ) := by
      show X7_goAlong_L53B _ w (w + 25 + c) (nI (stp σ0 c)) s.2.1 s.2.2 (nI i) μ = _
      unfold X7_goAlong_L53B X7_goAlong_J192
      rw [if_neg (fun q => absurd ((nI_leq (by omega) (by omega)).mp q) (by omega)), hwant, hdir, place7 (c := c) h ⟨hI, hn0, ho, hr⟩ hI0 h0 (i := i) (by omega), cal_some]
    rw [hunf]
    by_cases q : s.2.2 = σ0 (142 + 4 * c)
    · rw [if_pos q, visGo_full hW (d + 1) i s q]
      exact ⟨μ, rfl, h, FrW.rf w μ⟩
    · rw [if_neg q]
      obtain ⟨μ1, e1, r1, f1⟩ := shop7 hI0 hc (plc_lt (c := c) (i := i) h0) (X7_goAlong_L53 n) (nI (stp σ0 c)) (nI i) 6 0 μ s FU (by omega) (by decide) h ⟨hI, hn0, ho, hr⟩
      have := (ih (i + 1) μ1 _ n (by omega) (by omega) r1 (atShop_ok (plc_lt (c := c) (i := i) h0) 6 0 s (by omega) ⟨hI, hn0, ho, hr⟩)).go f1
      rw [nI_s] at e1
      rw [show X7_goAlong_L83 (X7_goAlong_L53 n) FU w (w + 25 + c) (nI (stp σ0 c)) s.2.1 s.2.2 (nI i) (nI (plc σ0 c i)) 0 μ = _ from e1]
      exact this
theorem imin_nI {a b : Nat} (ha : a < 2 ^ 31) (hb : b < 2 ^ 31) : imin (nI a) (nI b) = nI (min a b) := by
  unfold imin
  by_cases h : a ≤ b
  · rw [if_neg (Int32.not_lt.mpr ((nI_leq ha hb).mpr h)), Nat.min_eq_left h]
  · rw [if_pos (Int32.not_le.mp (fun q => h ((nI_leq ha hb).mp q))), Nat.min_eq_right (by omega)]
theorem goAlong7 {w c : Nat} {μ : Mem} {σ : Nat → Int32} (h : RepW μ w σ) (hI : Inv σ) (hc : c < nC σ) : PW w μ (f_X7_goAlong w (nI c) μ) (vis σ c).2.2 (vis σ c).1 := by
  have h6 := hI.n6
  have hc10 := hI.c10
  obtain ⟨g1, g2, g3⟩ := cS_ok hI hc
  have hst : f_X7_goAlong w (nI c) μ = X7_goAlong_L53 FU w (w + 25 + c) (nI (stp σ c)) (σ (145 + 4 * c)) 0 0 μ := by
    have e1 : μ (w + 25 + c) 1 = nI (cS σ c) := by
      have := rd_cust h hI (c := c) (j := 1) hc (by omega)
      rw [this, show 142 + 4 * c + 1 = 143 + 4 * c by omega, g3]
    have e3 : μ (w + 25 + c) 3 = σ (145 + 4 * c) := by
      have := rd_cust h hI (c := c) (j := 3) hc (by omega)
      rw [this, show 142 + 4 * c + 3 = 145 + 4 * c by omega]
    unfold f_X7_goAlong X7_goAlong_J29 X7_goAlong_J40
    rw [inb_nI (by omega) (by omega), gd_t, clamp_nI (by omega), locD, rd_ring h, rd_n h, hI.s0, e1, e3, bnd_eq, bnd_eq, imin_nI (by omega) (by omega)]
    unfold stp
    by_cases q : σ 4 = 1
    · rw [if_pos q]
      by_cases q2 : nS σ = 0
      · rw [if_pos ((nI_le0 (by omega)).mpr q2), if_neg (fun x => x.2 q2)]
      · rw [if_neg (fun x => q2 ((nI_le0 (by omega)).mp x)), if_pos ⟨q, q2⟩]
    · rw [if_neg q, if_neg (fun x => q x.1)]
  rw [hst]
  rcases Nat.eq_zero_or_pos (nS σ) with q | q
  · have hz := (stp_ok hI hc).2 q
    unfold vis
    rw [hz]
    refine ⟨μ, ?_, h, FrW.rf w μ⟩
    have : FU = (FU - 1) + 1 := by decide
    rw [this]
    show X7_goAlong_L53B _ w (w + 25 + c) (nI 0) (σ (145 + 4 * c)) 0 (nI 0) μ = _
    unfold X7_goAlong_L53B X7_goAlong_J192
    rw [if_pos ((nI_leq (by omega) (by omega)).mpr (by omega))]
    rfl
  · have h12 := (stp_ok hI hc).1
    exact along7 hI hc q (stp σ c) 0 μ (σ, σ (145 + 4 * c), 0) FU (by omega) (by rw [FU_eq]; omega) h (VOk.rf hI _)
/-! the model -/
theorem of9 {μ : Mem} {σ : Nat → Int32} (h : μ 143 = σ) {c j : Nat} {x : Int32} (hx : x = nI j) (hc : c < 10) (hj : j < 4) : f_X9_of 142 (nI c) x μ = some (σ (142 + 4 * c + j), μ) := by
  unfold f_X9_of
  have e : (142 : Int32) + (4 : Int32) * nI c + x = nI (142 + 4 * c + j) := by
    rw [hx]
    show nI 142 + nI 4 * nI c + nI j = _
    rw [nI_mul, nI_add, nI_add]
  rw [e, inb_nI (by omega) (by omega), gd_t, clamp_nI (by omega), show (142 + 1 : Nat) = 143 from rfl, h]
theorem of9_0 {μ : Mem} {σ : Nat → Int32} (h : μ 143 = σ) {c : Nat} (hc : c < 10) : f_X9_of 142 (nI c) 0 μ = some (σ (142 + 4 * c), μ) := of9 h (j := 0) rfl hc (by omega)
theorem of9_1 {μ : Mem} {σ : Nat → Int32} (h : μ 143 = σ) {c : Nat} (hc : c < 10) : f_X9_of 142 (nI c) 1 μ = some (σ (143 + 4 * c), μ) := by
  have := of9 h (j := 1) (x := 1) rfl hc (by omega)
  rwa [show 142 + 4 * c + 1 = 143 + 4 * c by omega] at this
theorem of9_2 {μ : Mem} {σ : Nat → Int32} (h : μ 143 = σ) {c : Nat} (hc : c < 10) : f_X9_of 142 (nI c) 2 μ = some (σ (144 + 4 * c), μ) := by
  have := of9 h (j := 2) (x := 2) rfl hc (by omega)
  rwa [show 142 + 4 * c + 2 = 144 + 4 * c by omega] at this
theorem of9_3 {μ : Mem} {σ : Nat → Int32} (h : μ 143 = σ) {c : Nat} (hc : c < 10) : f_X9_of 142 (nI c) 3 μ = some (σ (145 + 4 * c), μ) := by
  have := of9 h (j := 3) (x := 3) rfl hc (by omega)
  rwa [show 142 + 4 * c + 3 = 145 + 4 * c by omega] at this
theorem sold_comm (σ : Nat → Int32) {k g : Nat} (hk : k < 6) (hg : g < 6) : upd (gts σ k (prc σ k g)) (25 + 21 * k + g) (gts σ k (prc σ k g) (25 + 21 * k + g) - 1) = sold σ k g := by
  funext i
  unfold sold
  by_cases e : i = 25 + 21 * k + g
  · rw [e, upd_same, gts_ne (by omega), gts_ne (by omega), upd_same]
  · rw [upd_ne e]
    by_cases e2 : i = 18 + 21 * k
    · rw [e2]
      unfold gts
      rw [upd_same, upd_same, upd_ne (by omega)]
    · rw [gts_ne e2, gts_ne e2, upd_ne e]
theorem shop9 {c : Nat} {σ0 : Nat → Int32} (hI0 : Inv σ0) (hc : c < nC σ0) {k : Nat} (hk : k < nS σ0) (k12 : Nat → Int32 → Int32 → Int32 → Int32 → Mem → Res) (x4 : Int32) : ∀ d g (μ : Mem) (s : VS) n, g + d = 6 → d < n → μ 143 = s.1 → VOk σ0 s →
    ∃ μ', X9_visits_L46 k12 n 142 (nI c) s.2.2 s.2.1 x4 (nI k) (nI g) μ = k12 142 (nI c) (atShop (σ0 (142 + 4 * c)) k d g s).2.2 (atShop (σ0 (142 + 4 * c)) k d g s).2.1 (x4 + 1) μ' ∧ μ' 143 = (atShop (σ0 (142 + 4 * c)) k d g s).1 ∧ FrG μ μ' := by
  have h6 := hI0.n6
  have hc10 := hI0.c10
  intro d
  induction d with
  | zero =>
    intro g μ s n hg hn h hs
    obtain ⟨n, rfl⟩ : ∃ m, n = m + 1 := ⟨n - 1, by omega⟩
    refine ⟨μ, ?_, h, FrG.rf μ⟩
    show X9_visits_L46B k12 _ 142 (nI c) s.2.2 s.2.1 x4 (nI k) (nI g) μ = _
    unfold X9_visits_L46B
    rw [if_pos ((six_le (by omega)).mpr (by omega)), bnd_eq]
    rfl
  | succ d ih =>
    intro g μ s n hg hn h hs
    obtain ⟨n, rfl⟩ : ∃ m, n = m + 1 := ⟨n - 1, by omega⟩
    obtain ⟨hI, hn0, ho, hr⟩ := hs
    have skip : ∀ μ1, μ1 143 = s.1 → FrG μ μ1 → ∃ μ', X9_visits_L46 k12 n 142 (nI c) s.2.2 s.2.1 x4 (nI k) (nI (g + 1)) μ1 = k12 142 (nI c) (atShop (σ0 (142 + 4 * c)) k d (g + 1) s).2.2 (atShop (σ0 (142 + 4 * c)) k d (g + 1) s).2.1 (x4 + 1) μ' ∧ μ' 143 = (atShop (σ0 (142 + 4 * c)) k d (g + 1) s).1 ∧ FrG μ μ' := by
      intro μ1 r1 f1
      obtain ⟨m, a, b, e⟩ := ih (g + 1) μ1 s n (by omega) (by omega) r1 ⟨hI, hn0, ho, hr⟩
      exact ⟨m, a, b, f1.tr e⟩
    have hunf : X9_visits_L46 k12 (n + 1) 142 (nI c) s.2.2 s.2.1 x4 (nI k) (nI g) μ = (if want (σ0 (142 + 4 * c)) s.2.2 g = true then X9_visits_J82 k12 (X9_visits_L46 k12 n) 142 (nI c) s.2.2 s.2.1 x4 (nI k) (nI g) 1 μ else X9_visits_L46 k12 n 142 (nI c) s.2.2 s.2.1 x4 (nI k) (nI (g + 1)) μ) := by
      show X9_visits_L46B k12 _ 142 (nI c) s.2.2 s.2.1 x4 (nI k) (nI g) μ = _
      have h81 : X9_visits_J81 k12 (X9_visits_L46 k12 n) 142 (nI c) s.2.2 s.2.1 x4 (nI k) (nI g) μ = X9_visits_L46 k12 n 142 (nI c) s.2.2 s.2.1 x4 (nI k) (nI (g + 1)) μ := by
        unfold X9_visits_J81 X9_visits_J82 X9_visits_J166
        rw [if_pos rfl, bnd_eq, nI_s]
      unfold X9_visits_L46B want
      rw [if_neg (fun q => absurd ((six_le (by omega)).mp q) (by omega)), of9_0 h (by omega), cal_some, h81, ho _ (by omega)]
      by_cases a1 : isr (σ0 (142 + 4 * c)) (nI g) &&& 1 = 1
      · rw [if_pos a1]
        by_cases a2 : isr s.2.2 (nI g) &&& 1 = 0
        · rw [if_pos a2, if_pos (by simp [a1, a2])]
        · rw [if_neg a2, if_neg (by simp [a2])]
      · rw [if_neg a1, if_neg (by simp [a1])]
    rw [hunf]
    show ∃ μ', _ = k12 142 (nI c) (atShop (σ0 (142 + 4 * c)) k d (g + 1) (buyG (σ0 (142 + 4 * c)) k g s)).2.2 (atShop (σ0 (142 + 4 * c)) k d (g + 1) (buyG (σ0 (142 + 4 * c)) k g s)).2.1 (x4 + 1) μ' ∧ μ' 143 = (atShop (σ0 (142 + 4 * c)) k d (g + 1) (buyG (σ0 (142 + 4 * c)) k g s)).1 ∧ FrG μ μ'
    by_cases c1 : want (σ0 (142 + 4 * c)) s.2.2 g = true
    · rw [if_pos c1]
      unfold X9_visits_J82 X9_visits_J166
      rw [if_neg (by decide), may9 (by rw [h]; exact hI) (k := k) (by rw [h]; omega) (by omega), cal_some, h]
      by_cases c2 : may s.1 k g = true
      · rw [b2_t c2, if_neg (by decide)]
        obtain ⟨μ1, e1, f1⟩ := priceOf9 h hI (k := k) (g := g) (by omega) (by omega)
        have h1 : μ1 143 = s.1 := by rw [f1.s3]; exact h
        obtain ⟨μ2, e2, f2⟩ := priceOf9 h1 hI (k := k) (g := g) (by omega) (by omega)
        have h2 : μ2 143 = s.1 := by rw [f2.s3]; exact h1
        rw [e1, cal_some]
        by_cases c3 : s.2.1 < prc s.1 k g
        · rw [if_pos c3, bnd_eq, nI_s]
          have hb : buyG (σ0 (142 + 4 * c)) k g s = s := by unfold buyG; rw [if_neg (fun q => q.2.2 c3)]
          rw [hb]
          exact skip μ1 h1 f1.G
        · rw [if_neg c3]
          have hb : buyG (σ0 (142 + 4 * c)) k g s = (sold s.1 k g, s.2.1 - prc s.1 k g, s.2.2 ||| isl 1 (nI g)) := by unfold buyG; rw [if_pos ⟨c1, c2, c3⟩]
          obtain ⟨i1, i2, i3, i4⟩ := sold_ok hI (k := k) (g := g) (by omega) (by omega) c2
          have e3 := gets9 (μ := μ2) (by rw [h2]; exact hI) (k := k) (by omega) (prc s.1 k g)
          rw [h2] at e3
          have e4 := its9_s (μ := sR μ2 143 (gts s.1 k (prc s.1 k g))) (k := k) (g := g) (by omega) (by omega)
          rw [sR_same] at e4
          have e5 := lays9_s (μ := sR μ2 143 (gts s.1 k (prc s.1 k g))) (k := k) (g := g) (by omega) (by omega) (gts s.1 k (prc s.1 k g) (25 + 21 * k + g) - 1)
          rw [sR_same, sR_sR, sold_comm s.1 (by omega) (by omega)] at e5
          obtain ⟨m, a, b, e⟩ := ih (g + 1) (sR μ2 143 (sold s.1 k g)) (sold s.1 k g, s.2.1 - prc s.1 k g, s.2.2 ||| isl 1 (nI g)) n (by omega) (by omega) (sR_same _ _ _) ⟨i2, i3.trans hn0, fun i hi => (i4 i hi).trans (ho i hi), or_rg hr (by omega)⟩
          rw [hb]
          refine ⟨m, ?_, b, ((f1.G.tr f2.G).tr (FrG.s _ _)).tr e⟩
          rw [e2, cal_some, bnd_eq, e3, cal_some, e4, cal_some, e5, cal_some, bnd_eq, bnd_eq, nI_s]
          exact a
      · rw [b2_f c2, if_pos rfl, bnd_eq, nI_s]
        have hb : buyG (σ0 (142 + 4 * c)) k g s = s := by unfold buyG; rw [if_neg (fun q => c2 q.2.1)]
        rw [hb]
        exact skip μ h (FrG.rf μ)
    · rw [if_neg c1]
      have hb : buyG (σ0 (142 + 4 * c)) k g s = s := by unfold buyG; rw [if_neg (fun q => c1 q.1)]
      rw [hb]
      exact skip μ h (FrG.rf μ)
/-- which shop the model says, or none -/
theorem shopOn9 {c : Nat} {σ0 : Nat → Int32} {μ : Mem} {s : VS} (h : μ 143 = s.1) (hs : VOk σ0 s) (hI0 : Inv σ0) (hc : c < nC σ0) {i : Nat} (hi : i < cS σ0 c) : f_X9_shopOn 142 (nI c) (nI i) μ = some (if i < stp σ0 c then nI (plc σ0 c i) else -1, μ) := by
  have h6 := hI0.n6
  have hc10 := hI0.c10
  have h12 := (cS_ok hI0 hc).1
  obtain ⟨hI, hn, ho, -⟩ := hs
  have e0 : s.1 0 = nI (nS σ0) := by rw [ho 0 (by omega)]; exact hI0.s0
  have e4 : s.1 4 = σ0 4 := ho 4 (by omega)
  have h27 : 0 < nS σ0 → X9_shopOn_J27 142 (nI c) (nI i) (nI (nS σ0)) μ = some (nI (plc σ0 c i), μ) := by
    intro h0
    have hlt := Nat.mod_lt i h0
    have hne : ¬ nI (nS σ0) = 0 := fun q => absurd (nI_inj (a := nS σ0) (b := 0) q (by omega) (by omega)) (by omega)
    unfold X9_shopOn_J27 X9_shopOn_J49 plc
    rw [of9_2 h (by omega), cal_some, gd_nz hne, gd_nz hne, ho _ (by omega), ((irm_all i (by omega) (nS σ0) h6).resolve_left (by omega))]
    by_cases q : σ0 (144 + 4 * c) = 0
    · rw [if_pos q, if_pos q]
    · rw [if_neg q, if_neg q, nI_pred1 h0, nI_sub (by omega)]
  unfold f_X9_shopOn X9_shopOn_J25
  rw [show inb (0 : Int32) 516 = true from by decide, gd_t, s0_le h, bnd_eq, e0, show inb (4 : Int32) 516 = true from by decide, gd_t, show (4 : Int32).toNatClampNeg = 4 from by decide, show (142 + 1 : Nat) = 143 from rfl, h, e4]
  rcases Nat.eq_zero_or_pos (nS σ0) with q | q
  · rw [q, if_pos (show nI 0 = 0 from rfl), if_neg (by rw [(stp_ok hI0 hc).2 q]; omega)]
  · have hne : ¬ nI (nS σ0) = 0 := fun q => absurd (nI_inj (a := nS σ0) (b := 0) q (by omega) (by omega)) (by omega)
    rw [if_neg hne, h27 q]
    obtain ⟨r1, r2⟩ := rg_nI (n := 1) hI0.ring (by omega)
    unfold stp
    by_cases a1 : σ0 4 = 0
    · rw [if_pos a1, if_neg (c := σ0 4 = 1 ∧ ¬ nS σ0 = 0) (fun x => absurd (a1.symm.trans x.1) (by decide))]
      by_cases a2 : i < nS σ0
      · rw [if_pos ((nI_ltI (by omega) (by omega)).mpr a2), if_pos (by omega)]
      · rw [if_neg (fun x => a2 ((nI_ltI (by omega) (by omega)).mp x)), if_neg (by omega)]
    · have a2 : σ0 4 = 1 := by
        obtain ⟨b1, b2⟩ := r2
        rcases (show r1 = 0 ∨ r1 = 1 by omega) with e | e
        · rw [e] at b2; exact absurd b2 a1
        · rw [e] at b2; exact b2
      rw [if_neg a1, if_pos (c := σ0 4 = 1 ∧ ¬ nS σ0 = 0) ⟨a2, by omega⟩, if_pos hi]
theorem along9 {c : Nat} {σ0 : Nat → Int32} (hI0 : Inv σ0) (hc : c < nC σ0) : ∀ d i (μ : Mem) (s : VS) n, i + d = stp σ0 c → d < n → μ 143 = s.1 → VOk σ0 s →
    PM μ (X9_visits_L12 n 142 (nI c) s.2.2 s.2.1 (nI i) μ) (visGo σ0 c d i s).2.2 (visGo σ0 c d i s).1 := by
  have h6 := hI0.n6
  have h12 := (stp_ok hI0 hc).1
  have hc10 := hI0.c10
  obtain ⟨g1, g2, g3⟩ := cS_ok hI0 hc
  have hle : stp σ0 c ≤ cS σ0 c := by unfold stp; split <;> omega
  intro d
  induction d with
  | zero =>
    intro i μ s n hi hn h hs
    obtain ⟨n, rfl⟩ : ∃ m, n = m + 1 := ⟨n - 1, by omega⟩
    refine ⟨μ, ?_, h, FrG.rf μ⟩
    show X9_visits_L12B _ 142 (nI c) s.2.2 s.2.1 (nI i) μ = _
    unfold X9_visits_L12B X9_visits_J178
    rw [of9_1 h (by omega), cal_some, hs.2.2.1 _ (by omega), g3]
    by_cases q : cS σ0 c ≤ i
    · rw [if_pos ((nI_leq (by omega) (by omega)).mpr q)]
      rfl
    · rw [if_neg (fun x => q ((nI_leq (by omega) (by omega)).mp x)), shopOn9 h hs hI0 hc (by omega), cal_some, if_neg (by omega : ¬ i < stp σ0 c), if_pos rfl]
      rfl
  | succ d ih =>
    intro i μ s n hi hn h hs
    obtain ⟨n, rfl⟩ : ∃ m, n = m + 1 := ⟨n - 1, by omega⟩
    have h0 : 0 < nS σ0 := by
      rcases Nat.eq_zero_or_pos (nS σ0) with q | q
      · have := (stp_ok hI0 hc).2 q; omega
      · exact q
    have hpl := plc_lt (c := c) (i := i) h0
    obtain ⟨μ1, e1, r1, f1⟩ := shop9 hI0 hc hpl (X9_visits_L12 n) (nI i) 6 0 μ s FU (by omega) (by decide) h hs
    have := (ih (i + 1) μ1 _ n (by omega) (by omega) r1 (atShop_ok hpl 6 0 s (by omega) hs)).go f1
    rw [nI_s] at e1
    have hunf : X9_visits_L12 (n + 1) 142 (nI c) s.2.2 s.2.1 (nI i) μ = X9_visits_L46 (X9_visits_L12 n) FU 142 (nI c) s.2.2 s.2.1 (nI i) (nI (plc σ0 c i)) (nI 0) μ := by
      show X9_visits_L12B _ 142 (nI c) s.2.2 s.2.1 (nI i) μ = _
      unfold X9_visits_L12B X9_visits_J178
      rw [of9_1 h (by omega), cal_some, hs.2.2.1 _ (by omega), g3, if_neg (fun x => absurd ((nI_leq (by omega) (by omega)).mp x) (by omega)), shopOn9 h hs hI0 hc (by omega), cal_some, if_pos (by omega : i < stp σ0 c), if_neg (nI_nm1 (by omega)), shopOn9 h hs hI0 hc (by omega), cal_some, if_pos (by omega : i < stp σ0 c)]
      rfl
    rw [hunf, e1]
    exact this
theorem visits9 {c : Nat} {μ : Mem} {σ : Nat → Int32} (h : μ 143 = σ) (hI : Inv σ) (hc : c < nC σ) : PM μ (f_X9_visits 142 (nI c) μ) (vis σ c).2.2 (vis σ c).1 := by
  have hc10 := hI.c10
  have h12 := (stp_ok hI hc).1
  unfold f_X9_visits
  rw [of9_3 h (by omega), cal_some]
  exact along9 hI hc (stp σ c) 0 μ (σ, σ (145 + 4 * c), 0) FU (by omega) (by rw [FU_eq]; omega) h (VOk.rf hI _)
