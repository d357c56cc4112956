/-! PURE 15: days -/
def bcJ (x0 : Int32) : Int32 :=
  let y1 := x0 - (iur x0 1 &&& 1431655765)
  let y2 := (y1 &&& 858993459) + (iur y1 2 &&& 858993459)
  let y3 := (y2 + iur y2 4) &&& 252645135
  let y4 := y3 + iur y3 8
  let y5 := y4 + iur y4 16
  y5 &&& 63
theorem bcJ_all : ∀ a, a ≤ 63 → bcJ (nI a) = bcn (nI a) := by decide +kernel
theorem bitCount6 {x : Int32} (h : rg x 0 63) (μ : Mem) : f_J6_bitCount_0f7a4 x μ = some (bcn x, μ) := by
  obtain ⟨a, ha, rfl⟩ := rg_nI (n := 63) h (by omega)
  rw [← bcJ_all a ha]
  rfl
def drw (σ : Nat → Int32) : Nat → Int32 := upd σ 8 (σ 8 * 1103515245 + 12345)
def drN (σ : Nat → Int32) : Int32 := iur (drw σ 8) 8
def vst (σ : Nat → Int32) (c : Nat) : Nat → Int32 := upd (vis σ c).1 3 (σ 3 + bcn (vis σ c).2.2)
def com (L : Int32) (σ : Nat → Int32) (c : Nat) : Nat → Int32 := if L = 0 then vst σ c else if irm (drN σ) 4 = 0 then drw σ else vst (drw σ) c
def comGo (L : Int32) : Nat → Nat → (Nat → Int32) → (Nat → Int32)
  | 0, _, σ => σ
  | d + 1, i, σ => comGo L d (i + 1) (com L σ i)
def eod (σ : Nat → Int32) : Nat → Int32 := upd σ 2 (σ 2 + 1)
def dayS (L : Int32) (σ : Nat → Int32) : Nat → Int32 := eod (comGo L (nC σ) 0 (upd (dawn σ) 3 0))
def dyGo (L : Int32) : Nat → (Nat → Int32) → (Nat → Int32)
  | 0, σ => σ
  | d + 1, σ => dyGo L d (dayS L σ)
/-- what a day leaves as it was: all but shops, days, sales, draws -/
def Kp (σ σ' : Nat → Int32) : Prop := Inv σ' ∧ nS σ' = nS σ ∧ nC σ' = nC σ ∧ ∀ i, (i < 16 ∨ 142 ≤ i) → i ≠ 2 → i ≠ 3 → i ≠ 8 → σ' i = σ i
theorem Kp.tr {a b c : Nat → Int32} (h1 : Kp a b) (h2 : Kp b c) : Kp a c := ⟨h2.1, h2.2.1.trans h1.2.1, h2.2.2.1.trans h1.2.2.1, fun i x y z u => (h2.2.2.2 i x y z u).trans (h1.2.2.2 i x y z u)⟩
theorem Kp.rf {σ : Nat → Int32} (h : Inv σ) : Kp σ σ := ⟨h, rfl, rfl, fun _ _ _ _ _ => rfl⟩
theorem Kp.fr {σ : Nat → Int32} (h : Inv σ) {i : Nat} (hi : i = 2 ∨ i = 3 ∨ i = 8) (v : Int32) : Kp σ (upd σ i v) := ⟨(h.free hi v).1, (h.free hi v).2.1, (h.free hi v).2.2, fun j _ a b c => upd_ne (by omega)⟩
theorem Kp.sh {σ σ' : Nat → Int32} (h : Inv σ') (h2 : ∀ i, i < 16 ∨ 142 ≤ i → σ' i = σ i) : Kp σ σ' := ⟨h, by unfold nS; rw [h2 0 (by omega)], by unfold nC; rw [h2 1 (by omega)], fun i hi _ _ _ => h2 i hi⟩
theorem vis_kp {σ : Nat → Int32} (hI : Inv σ) {c : Nat} (hc : c < nC σ) : Kp σ (vis σ c).1 := Kp.sh (vis_ok hI hc).1 (vis_ok hI hc).2.2.1
theorem vst_kp {σ : Nat → Int32} (hI : Inv σ) {c : Nat} (hc : c < nC σ) : Kp σ (vst σ c) := (vis_kp hI hc).tr (Kp.fr (vis_kp hI hc).1 (by omega) _)
theorem drw_kp {σ : Nat → Int32} (hI : Inv σ) : Kp σ (drw σ) := Kp.fr hI (by omega) _
theorem com_kp {L : Int32} {σ : Nat → Int32} (hI : Inv σ) {c : Nat} (hc : c < nC σ) : Kp σ (com L σ c) := by
  unfold com
  split
  · exact vst_kp hI hc
  · split
    · exact drw_kp hI
    · have := drw_kp hI
      exact this.tr (vst_kp this.1 (by rw [this.2.2.1]; exact hc))
theorem comGo_kp {L : Int32} : ∀ d i (σ : Nat → Int32), i + d = nC σ → Inv σ → Kp σ (comGo L d i σ) := by
  intro d
  induction d with
  | zero => intro i σ _ h; exact Kp.rf h
  | succ d ih =>
    intro i σ hi h
    have k1 := com_kp (L := L) h (c := i) (by omega)
    exact k1.tr (ih (i + 1) _ (by rw [k1.2.2.1]; omega) k1.1)
theorem dawn_kp {σ : Nat → Int32} (hI : Inv σ) : Kp σ (dawn σ) := Kp.sh (dawn_ok hI).1 (dawn_ok hI).2.2
theorem dayS_kp {L : Int32} {σ : Nat → Int32} (hI : Inv σ) : Kp σ (dayS L σ) := by
  have k1 := dawn_kp hI
  have k2 := k1.tr (Kp.fr k1.1 (i := 3) (by omega) 0)
  have k3 := k2.tr (comGo_kp (L := L) (nC σ) 0 _ (by rw [k2.2.2.1]; omega) k2.1)
  exact k3.tr (Kp.fr k3.1 (i := 2) (by omega) _)
theorem dyGo_kp {L : Int32} : ∀ d (σ : Nat → Int32), Inv σ → Kp σ (dyGo L d σ) := by
  intro d
  induction d with
  | zero => intro σ h; exact Kp.rf h
  | succ d ih =>
    intro σ h
    have k1 := dayS_kp (L := L) h
    exact k1.tr (ih _ k1.1)
/-- the class -/
theorem vst7 {w c : Nat} {μ : Mem} {σ : Nat → Int32} (h : RepW μ w σ) (hI : Inv σ) (hc : c < nC σ) : ∃ μ1, f_X7_goAlong w (nI c) μ = some ((vis σ c).2.2, μ1) ∧ RepW (mset μ1 w 8 (σ 3 + bcn (vis σ c).2.2)) w (vst σ c) ∧ FrW w μ (mset μ1 w 8 (σ 3 + bcn (vis σ c).2.2)) := by
  obtain ⟨μ1, e1, r1, f1⟩ := goAlong7 h hI hc
  exact ⟨μ1, e1, wr_sales r1 (vis_ok hI hc).1 _, f1.tr FrW.m0⟩
theorem pass41 {w c : Nat} {μ : Mem} {σ : Nat → Int32} (h : RepW μ w σ) (hI : Inv σ) (hc : c < nC σ) (k2 : Nat → Int32 → Int32 → Int32 → Mem → Res) (k19 : Nat → Int32 → Int32 → Int32 → Int32 → Mem → Res) (x1 x2 x3 : Int32) : ∃ μ', X7_pass_J41 k2 k19 w x1 x2 x3 (nI c) μ = k19 w x1 x2 x3 (nI (c + 1)) μ' ∧ RepW μ' w (vst σ c) ∧ FrW w μ μ' := by
  obtain ⟨μ1, e1, r1, f1⟩ := vst7 h hI hc
  refine ⟨_, ?_, r1, f1⟩
  unfold X7_pass_J41 X7_pass_J59
  rw [e1, cal_some, bitCount6 (vis_ok hI hc).2.2.2, cal_some, bnd_eq, bnd_eq, nI_s, rd_sales h]
theorem pass19 {w : Nat} (k2 : Nat → Int32 → Int32 → Int32 → Mem → Res) (x1 L x3 : Int32) : ∀ d i (μ : Mem) (σ : Nat → Int32) n, i + d = nC σ → d < n → RepW μ w σ → Inv σ → ∃ μ', X7_pass_L19 k2 n w x1 L x3 (nI i) μ = k2 w x1 L (x3 + 1) μ' ∧ RepW μ' w (eod (comGo L d i σ)) ∧ FrW w μ μ' := by
  intro d
  induction d with
  | zero =>
    intro i μ σ n hi hn h hI
    have h6 := hI.c10
    obtain ⟨n, rfl⟩ : ∃ m, n = m + 1 := ⟨n - 1, by omega⟩
    refine ⟨mset μ w 7 (σ 2 + 1), ?_, wr_days h hI _, FrW.m0⟩
    show X7_pass_L19B k2 _ w x1 L x3 (nI i) μ = _
    unfold X7_pass_L19B
    rw [rd_c h, hI.s1, if_pos ((nI_leq (by omega) (by omega)).mpr (by omega)), bnd_eq, bnd_eq, rd_days h]
  | succ d ih =>
    intro i μ σ n hi hn h hI
    have h6 := hI.c10
    obtain ⟨n, rfl⟩ : ∃ m, n = m + 1 := ⟨n - 1, by omega⟩
    have k1 := com_kp (L := L) hI (c := i) (by omega)
    have step : ∃ μ1, X7_pass_L19 k2 (n + 1) w x1 L x3 (nI i) μ = X7_pass_L19 k2 n w x1 L x3 (nI (i + 1)) μ1 ∧ RepW μ1 w (com L σ i) ∧ FrW w μ μ1 := by
      have hunf : X7_pass_L19 k2 (n + 1) w x1 L x3 (nI i) μ = (if L = 0 then X7_pass_J41 k2 (X7_pass_L19 k2 n) w x1 L x3 (nI i) μ else if irm (drN σ) 4 = 0 then X7_pass_L19 k2 n w x1 L x3 (nI (i + 1)) (mset μ w 9 (drw σ 8)) else X7_pass_J41 k2 (X7_pass_L19 k2 n) w x1 L x3 (nI i) (mset μ w 9 (drw σ 8))) := by
        show X7_pass_L19B k2 _ w x1 L x3 (nI i) μ = _
        unfold X7_pass_L19B X7_pass_J59 f_X7_draw
        rw [rd_c h, hI.s1, if_neg (fun q => absurd ((nI_leq (by omega) (by omega)).mp q) (by omega)), bnd_eq, cal_some, gd_nz (by decide), bnd_eq, mset_self, rd_z h, nI_s]
        unfold drN drw
        rw [upd_same]
      rw [hunf]
      unfold com
      by_cases q : L = 0
      · rw [if_pos q, if_pos q]
        exact pass41 h hI (by omega) _ _ _ _ _
      · rw [if_neg q, if_neg q]
        have r1 : RepW (mset μ w 9 (drw σ 8)) w (drw σ) := by
          have := wr_z h hI (σ 8 * 1103515245 + 12345)
          unfold drw
          rw [upd_same]
          exact this
        have kd := drw_kp hI
        by_cases q2 : irm (drN σ) 4 = 0
        · rw [if_pos q2, if_pos q2]
          exact ⟨_, rfl, r1, FrW.m0⟩
        · rw [if_neg q2, if_neg q2]
          obtain ⟨m, a, b, e⟩ := pass41 r1 kd.1 (c := i) (by rw [kd.2.2.1]; omega) k2 (X7_pass_L19 k2 n) x1 L x3
          exact ⟨m, a, b, FrW.m0.tr e⟩
    obtain ⟨μ1, e1, r1, f1⟩ := step
    obtain ⟨m, a, b, e⟩ := ih (i + 1) μ1 _ n (by rw [k1.2.2.1]; omega) (by omega) r1 k1.1
    exact ⟨m, e1.trans a, b, f1.tr e⟩
theorem pass2 {w : Nat} {N : Nat} (hN : N < 2 ^ 31) (L : Int32) : ∀ d i (μ : Mem) (σ : Nat → Int32) n, i + d = N → d < n → RepW μ w σ → Inv σ → PW w μ (X7_pass_L2 n w (nI N) L (nI i) μ) 0 (dyGo L d σ) := by
  intro d
  induction d with
  | zero =>
    intro i μ σ n hi hn h hI
    obtain ⟨n, rfl⟩ : ∃ m, n = m + 1 := ⟨n - 1, by omega⟩
    refine ⟨μ, ?_, h, FrW.rf w μ⟩
    show X7_pass_L2B _ w (nI N) L (nI i) μ = _
    unfold X7_pass_L2B
    rw [if_pos ((nI_leq (by omega) (by omega)).mpr (by omega))]
  | succ d ih =>
    intro i μ σ n hi hn h hI
    obtain ⟨n, rfl⟩ : ∃ m, n = m + 1 := ⟨n - 1, by omega⟩
    have hc := hI.c10
    obtain ⟨μ1, e1, r1, f1⟩ := passMorning7 h hI
    have k1 := dawn_kp hI
    have r2 := wr_sales r1 k1.1 0
    have k2 := k1.tr (Kp.fr k1.1 (i := 3) (by omega) 0)
    obtain ⟨μ3, e3, r3, f3⟩ := pass19 (X7_pass_L2 n) (nI N) L (nI i) (nC σ) 0 _ _ FU (by rw [k2.2.2.1]; omega) (by rw [FU_eq]; omega) r2 k2.1
    have := ih (i + 1) μ3 (dayS L σ) n (by omega) (by omega) r3 (dayS_kp hI).1
    have hunf : X7_pass_L2 (n + 1) w (nI N) L (nI i) μ = X7_pass_L2 n w (nI N) L (nI (i + 1)) μ3 := by
      show X7_pass_L2B _ w (nI N) L (nI i) μ = _
      unfold X7_pass_L2B
      rw [if_neg (fun q => absurd ((nI_leq (by omega) (by omega)).mp q) (by omega)), e1, cal_some, bnd_eq, ← nI_s]
      exact e3
    rw [hunf]
    exact this.go ((f1.tr FrW.m0).tr f3)
theorem pass7 {w N : Nat} {μ : Mem} {σ : Nat → Int32} (hN : N < 1000) (L : Int32) (h : RepW μ w σ) (hI : Inv σ) : PW w μ (f_X7_pass w (nI N) L μ) 0 (dyGo L N σ) := pass2 (by omega) L N 0 μ σ FU (by omega) (by rw [FU_eq]; omega) h hI
theorem gAll7 {w : Nat} : ∀ d i (μ : Mem) (σ : Nat → Int32) n, i + d = nC σ → d < n → RepW μ w σ → Inv σ → PW w μ (X7_allGoAlong_L2 n w (nI i) μ) 0 (shGo (fun σ c => (vis σ c).1) d i σ) := by
  intro d
  induction d with
  | zero =>
    intro i μ σ n hi hn h hI
    have h6 := hI.c10
    obtain ⟨n, rfl⟩ : ∃ m, n = m + 1 := ⟨n - 1, by omega⟩
    refine ⟨μ, ?_, h, FrW.rf w μ⟩
    show X7_allGoAlong_L2B _ w (nI i) μ = _
    unfold X7_allGoAlong_L2B
    rw [rd_c h, hI.s1, if_pos ((nI_leq (by omega) (by omega)).mpr (by omega))]
  | succ d ih =>
    intro i μ σ n hi hn h hI
    have h6 := hI.c10
    obtain ⟨n, rfl⟩ : ∃ m, n = m + 1 := ⟨n - 1, by omega⟩
    obtain ⟨μ1, e1, r1, f1⟩ := goAlong7 h hI (c := i) (by omega)
    have k1 := vis_kp hI (c := i) (by omega)
    have hunf : X7_allGoAlong_L2 (n + 1) w (nI i) μ = X7_allGoAlong_L2 n w (nI (i + 1)) μ1 := by
      show X7_allGoAlong_L2B _ w (nI i) μ = _
      unfold X7_allGoAlong_L2B
      rw [rd_c h, hI.s1, if_neg (fun q => absurd ((nI_leq (by omega) (by omega)).mp q) (by omega)), e1, cal_some, bnd_eq, nI_s]
    rw [hunf]
    exact (ih (i + 1) μ1 _ n (by rw [k1.2.2.1]; omega) (by omega) r1 k1.1).go f1
/-- all go along -/
def visAll (σ : Nat → Int32) : Nat → Int32 := shGo (fun σ c => (vis σ c).1) (nC σ) 0 σ
theorem visGoAll_kp : ∀ d i (σ : Nat → Int32), i + d = nC σ → Inv σ → Kp σ (shGo (fun σ c => (vis σ c).1) d i σ) := by
  intro d
  induction d with
  | zero => intro i σ _ h; exact Kp.rf h
  | succ d ih =>
    intro i σ hi h
    have k1 := vis_kp h (c := i) (by omega)
    exact k1.tr (ih (i + 1) _ (by rw [k1.2.2.1]; omega) k1.1)
theorem visAll_kp {σ : Nat → Int32} (hI : Inv σ) : Kp σ (visAll σ) := visGoAll_kp (nC σ) 0 σ (by omega) hI
theorem allGoAlong7 {w : Nat} {μ : Mem} {σ : Nat → Int32} (h : RepW μ w σ) (hI : Inv σ) : PW w μ (f_X7_allGoAlong w μ) 0 (visAll σ) := by
  have h6 := hI.c10
  exact gAll7 (nC σ) 0 μ σ FU (by omega) (by rw [FU_eq]; omega) h hI
/-- the model -/
theorem ix143 {μ : Mem} {σ : Nat → Int32} (h : μ 143 = σ) (x : Int32) : μ (142 + 1) x.toNatClampNeg = σ x.toNatClampNeg := by
  rw [show (142 + 1 : Nat) = 143 from rfl, h]
theorem day56 (k8 : Nat → Int32 → Int32 → Int32 → Mem → Res) (L x y : Int32) (i : Nat) (μ : Mem) : X9_day_J56 k8 142 L (nI i) x y μ = k8 142 L (x + y) (nI (i + 1)) μ := by
  unfold X9_day_J56
  rw [bnd_eq, bnd_eq, nI_s]
theorem vst_3 (σ : Nat → Int32) (x : Int32) (c : Nat) : vst (upd σ 3 x) c = upd (vis σ c).1 3 (x + bcn (vis σ c).2.2) := by
  unfold vst
  rw [vis_3, upd_same]
  show upd (upd (vis σ c).1 3 x) 3 (x + bcn (vis σ c).2.2) = _
  rw [upd_upd]
theorem day36 (k8 : Nat → Int32 → Int32 → Int32 → Mem → Res) (L x : Int32) {i : Nat} {μ : Mem} {σ : Nat → Int32} (h : μ 143 = σ) (hI : Inv σ) (hi : i < nC σ) : ∃ μ', X9_day_J36 k8 142 L x (nI i) 0 μ = k8 142 L (x + bcn (vis σ i).2.2) (nI (i + 1)) μ' ∧ μ' 143 = (vis σ i).1 ∧ FrG μ μ' := by
  obtain ⟨μ1, e1, r1, f1⟩ := visits9 h hI hi
  refine ⟨μ1, ?_, r1, f1⟩
  unfold X9_day_J36
  rw [if_pos rfl, e1, cal_some, bitsOf9 (vis_ok hI hi).2.2.2, cal_some, day56]
theorem day8 (L : Int32) : ∀ d i (μ : Mem) (σ : Nat → Int32) (x : Int32) n, i + d = nC σ → d < n → μ 143 = σ → Inv σ → PM μ (X9_day_L8 n 142 L x (nI i) μ) 0 (eod (comGo L d i (upd σ 3 x))) := by
  intro d
  induction d with
  | zero =>
    intro i μ σ x n hi hn h hI
    have h6 := hI.c10
    obtain ⟨n, rfl⟩ : ∃ m, n = m + 1 := ⟨n - 1, by omega⟩
    refine ⟨sR μ 143 (eod (upd σ 3 x)), ?_, sR_same _ _ _, FrG.s _ _⟩
    show X9_day_L8B _ 142 L x (nI i) μ = _
    unfold X9_day_L8B
    rw [show inb (1 : Int32) 516 = true from by decide, gd_t, ix143 h, z1, hI.s1, if_pos ((nI_leq (by omega) (by omega)).mpr (by omega)), show inb (3 : Int32) 516 = true from by decide, gd_t, show inb (2 : Int32) 516 = true from by decide, bnd_eq, gd_t, gd_t, bnd_eq, show (3 : Int32).toNatClampNeg = 3 from by decide, show (2 : Int32).toNatClampNeg = 2 from by decide, show (142 + 1 : Nat) = 143 from rfl]
    simp only [mset_sR, sR_sR, sR_same]
    rw [h]
    rfl
  | succ d ih =>
    intro i μ σ x n hi hn h hI
    have h6 := hI.c10
    obtain ⟨n, rfl⟩ : ∃ m, n = m + 1 := ⟨n - 1, by omega⟩
    have k0 := Kp.fr hI (i := 3) (by omega) x
    have step : ∃ μ1 σ1 x1, X9_day_L8 (n + 1) 142 L x (nI i) μ = X9_day_L8 n 142 L x1 (nI (i + 1)) μ1 ∧ μ1 143 = σ1 ∧ FrG μ μ1 ∧ Inv σ1 ∧ nC σ1 = nC σ ∧ upd σ1 3 x1 = com L (upd σ 3 x) i := by
      have hunf : X9_day_L8 (n + 1) 142 L x (nI i) μ = (if L = 0 then X9_day_J36 (X9_day_L8 n) 142 L x (nI i) 0 μ else if irm (drN σ) 4 = 0 then X9_day_L8 n 142 L (x + 0) (nI (i + 1)) (sR μ 143 (drw σ)) else X9_day_J36 (X9_day_L8 n) 142 L x (nI i) 0 (sR μ 143 (drw σ))) := by
        show X9_day_L8B _ 142 L x (nI i) μ = _
        unfold X9_day_L8B X9_day_J35 f_X9_draw
        rw [show inb (1 : Int32) 516 = true from by decide, gd_t, ix143 h, z1, hI.s1, if_neg (fun q => absurd ((nI_leq (by omega) (by omega)).mp q) (by omega)), show inb (8 : Int32) 516 = true from by decide, gd_t, gd_t, bnd_eq, gd_t, cal_some, gd_nz (by decide), ix143 h, show (8 : Int32).toNatClampNeg = 8 from by decide, show (142 + 1 : Nat) = 143 from rfl, mset_sR, h, sR_same]
        rw [show X9_day_J36 (X9_day_L8 n) 142 L x (nI i) 1 (sR μ 143 (upd σ 8 (σ 8 * 1103515245 + 12345))) = X9_day_L8 n 142 L (x + 0) (nI (i + 1)) (sR μ 143 (drw σ)) from by
          unfold X9_day_J36
          rw [if_neg (by decide), day56]
          rfl]
        rfl
      rw [hunf]
      unfold com
      by_cases q : L = 0
      · rw [if_pos q, if_pos q]
        obtain ⟨m, a, b, e⟩ := day36 (X9_day_L8 n) L x h hI (i := i) (by omega)
        have kv := vis_kp hI (c := i) (by omega)
        exact ⟨m, _, _, a, b, e, kv.1, kv.2.2.1, (vst_3 σ x i).symm⟩
      · rw [if_neg q, if_neg q]
        have kd := drw_kp hI
        have hd : drw (upd σ 3 x) = upd (drw σ) 3 x := by
          unfold drw
          rw [upd_ne (f := σ) (j := 8) (i := 3) (by omega), upd_comm (by omega)]
        have hn : drN (upd σ 3 x) = drN σ := by
          unfold drN
          rw [hd, upd_ne (by omega)]
        rw [hn]
        by_cases q2 : irm (drN σ) 4 = 0
        · rw [if_pos q2, if_pos q2, hd]
          exact ⟨_, drw σ, x + 0, rfl, sR_same _ _ _, FrG.s _ _, kd.1, kd.2.2.1, by rw [Int32.add_zero]⟩
        · rw [if_neg q2, if_neg q2, hd]
          obtain ⟨m, a, b, e⟩ := day36 (X9_day_L8 n) L x (μ := sR μ 143 (drw σ)) (sR_same _ _ _) kd.1 (i := i) (by rw [kd.2.2.1]; omega)
          have kv := vis_kp kd.1 (c := i) (by rw [kd.2.2.1]; omega)
          exact ⟨m, _, _, a, b, (FrG.s _ _).tr e, kv.1, kv.2.2.1.trans kd.2.2.1, (vst_3 (drw σ) x i).symm⟩
    obtain ⟨μ1, σ1, x1, e1, r1, f1, i1, n1, c1⟩ := step
    have := ih (i + 1) μ1 σ1 x1 n (by rw [n1]; omega) (by omega) r1 i1
    rw [e1]
    show PM μ _ 0 (eod (comGo L d (i + 1) (com L (upd σ 3 x) i)))
    rw [← c1]
    exact this.go f1
theorem day9 (L : Int32) {μ : Mem} {σ : Nat → Int32} (h : μ 143 = σ) (hI : Inv σ) : PM μ (f_X9_day 142 L μ) 0 (dayS L σ) := by
  have hc := hI.c10
  obtain ⟨μ1, e1, r1, f1⟩ := dawns9 h hI
  have k1 := dawn_kp hI
  unfold f_X9_day
  rw [e1, cal_some]
  have := day8 L (nC σ) 0 μ1 (dawn σ) 0 FU (by rw [k1.2.2.1]; omega) (by rw [FU_eq]; omega) r1 k1.1
  exact this.go f1
theorem go2 {N : Nat} (hN : N < 2 ^ 31) : ∀ d i (μ : Mem) (σ : Nat → Int32) n, i + d = N → d < n → μ 143 = σ → Inv σ → PM μ (X9_go_L2 n 142 (nI N) (nI i) μ) 0 (dyGo 0 d σ) := by
  intro d
  induction d with
  | zero =>
    intro i μ σ n hi hn h hI
    obtain ⟨n, rfl⟩ : ∃ m, n = m + 1 := ⟨n - 1, by omega⟩
    refine ⟨μ, ?_, h, FrG.rf μ⟩
    show X9_go_L2B _ 142 (nI N) (nI i) μ = _
    unfold X9_go_L2B
    rw [if_pos ((nI_leq (by omega) (by omega)).mpr (by omega))]
  | succ d ih =>
    intro i μ σ n hi hn h hI
    obtain ⟨n, rfl⟩ : ∃ m, n = m + 1 := ⟨n - 1, by omega⟩
    obtain ⟨μ1, e1, r1, f1⟩ := day9 0 h hI
    have hunf : X9_go_L2 (n + 1) 142 (nI N) (nI i) μ = X9_go_L2 n 142 (nI N) (nI (i + 1)) μ1 := by
      show X9_go_L2B _ 142 (nI N) (nI i) μ = _
      unfold X9_go_L2B
      rw [if_neg (fun q => absurd ((nI_leq (by omega) (by omega)).mp q) (by omega)), e1, cal_some, bnd_eq, nI_s]
    rw [hunf]
    exact (ih (i + 1) μ1 (dayS 0 σ) n (by omega) (by omega) r1 (dayS_kp hI).1).go f1
theorem go9 {N : Nat} {μ : Mem} {σ : Nat → Int32} (hN : N < 1000) (h : μ 143 = σ) (hI : Inv σ) : PM μ (f_X9_go 142 (nI N) μ) 0 (dyGo 0 N σ) := go2 (by omega) N 0 μ σ FU (by omega) (by rw [FU_eq]; omega) h hI
theorem loose38 {N : Nat} (hN : N < 2 ^ 31) : ∀ d i (μ : Mem) (σ : Nat → Int32) n, i + d = N → d < n → μ 143 = σ → Inv σ → PM μ (X9_loose_L38 n 142 (nI N) (nI i) μ) (dyGo 1 d σ 3) (dyGo 1 d σ) := by
  intro d
  induction d with
  | zero =>
    intro i μ σ n hi hn h hI
    obtain ⟨n, rfl⟩ : ∃ m, n = m + 1 := ⟨n - 1, by omega⟩
    refine ⟨μ, ?_, h, FrG.rf μ⟩
    show X9_loose_L38B _ 142 (nI N) (nI i) μ = _
    unfold X9_loose_L38B
    rw [if_pos ((nI_leq (by omega) (by omega)).mpr (by omega)), show inb (3 : Int32) 516 = true from by decide, gd_t, ix143 h, show (3 : Int32).toNatClampNeg = 3 from by decide]
    rfl
  | succ d ih =>
    intro i μ σ n hi hn h hI
    obtain ⟨n, rfl⟩ : ∃ m, n = m + 1 := ⟨n - 1, by omega⟩
    obtain ⟨μ1, e1, r1, f1⟩ := day9 1 h hI
    have hunf : X9_loose_L38 (n + 1) 142 (nI N) (nI i) μ = X9_loose_L38 n 142 (nI N) (nI (i + 1)) μ1 := by
      show X9_loose_L38B _ 142 (nI N) (nI i) μ = _
      unfold X9_loose_L38B
      rw [if_neg (fun q => absurd ((nI_leq (by omega) (by omega)).mp q) (by omega)), e1, cal_some, bnd_eq, nI_s]
    rw [hunf]
    exact (ih (i + 1) μ1 (dayS 1 σ) n (by omega) (by omega) r1 (dayS_kp hI).1).go f1
