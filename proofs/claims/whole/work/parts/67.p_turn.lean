/-! PURE 32: a shop is copied over another; how the row should be turned -/
section
def cpS (τ : Nat → Int32) (t : Nat) (σ : Nat → Int32) (k : Nat) : Nat → Int32 := fun j => if 16 + 21 * t ≤ j ∧ j < 37 + 21 * t then σ (j - 21 * t + 21 * k) else τ j
theorem cpS_in {τ σ : Nat → Int32} {t k j : Nat} (hj : j < 21) : cpS τ t σ k (16 + 21 * t + j) = σ (16 + 21 * k + j) := by
  unfold cpS
  rw [if_pos (by omega)]
  congr 1
  omega
theorem cpS_out {τ σ : Nat → Int32} {t k i : Nat} (h : i < 16 + 21 * t ∨ 37 + 21 * t ≤ i) : cpS τ t σ k i = τ i := if_neg (by omega)
theorem cpS_inv {τ σ : Nat → Int32} (hI : Inv τ) (hJ : Inv σ) {t k : Nat} (ht : t < 6) (hk : k < nS σ) : Inv (cpS τ t σ k) ∧ nS (cpS τ t σ k) = nS τ ∧ ∀ i, i < 16 ∨ 142 ≤ i → cpS τ t σ k i = τ i := by
  have h6 := hI.n6
  refine ⟨hI.shops (fun i hi => cpS_out (by omega)) (fun k' hk' => ShopOk.mk (fun j hj => ?_)), by unfold nS; rw [cpS_out (by omega)], fun i hi => cpS_out (by omega)⟩
  by_cases e : k' = t
  · subst e
    rw [cpS_in (by omega)]
    exact (hJ.shop k hk).at hj
  · rw [cpS_out (by omega)]
    exact (hI.shop k' hk').at hj
theorem copyS7 {w v t k : Nat} {μ : Mem} {τ σ : Nat → Int32} (h : RepW μ w τ) (hI : Inv τ) (hs : RepW μ v σ) (hJ : Inv σ) (ht : t < nS τ) (hk : k < nS σ) (hd : v + 7 + 3 * k + 3 ≤ w + 7 + 3 * t ∨ w + 7 + 3 * t + 3 ≤ v + 7 + 3 * k) : PW w μ (f_X5_copyFrom (w + 7 + 3 * t) (v + 7 + 3 * k) μ) 0 (cpS τ t σ k) := by
  have h6 := hI.n6
  obtain ⟨μ', a, f, g1, g2, g3⟩ := copy5 hd μ
  have ht6 : t < 6 := by omega
  have hlv : lve (cpS τ t σ k) = lve τ := by
    unfold lve nS nC nT nW
    rw [cpS_out (by omega), cpS_out (by omega), cpS_out (by omega), cpS_out (by omega)]
  have hns : nS (cpS τ t σ k) = nS τ := by
    unfold nS
    rw [cpS_out (by omega)]
  refine ⟨μ', a, ⟨fun i p hi hl => ?_, fun k' hk' g hg => ?_, fun u hu => ⟨?_, fun i hi => ?_⟩⟩, fun l hl => f l (by omega)⟩
  · rw [hlv] at hl
    by_cases c : 16 + 21 * t ≤ i ∧ i < 37 + 21 * t
    · have hm := (am_bk hi).2.2.2.1 (by omega) (by omega)
      obtain ⟨j, hj, rfl⟩ : ∃ j, j < 15 ∧ i = 16 + 21 * t + j := ⟨i - (16 + 21 * t), by omega, by omega⟩
      rw [cpS_in (by omega)]
      by_cases j0 : j = 0
      · subst j0
        have e : p = (7 + 3 * t, 0) := Option.some.inj (hi.symm.trans (am_kind t ht6))
        subst e
        show μ' (w + (7 + 3 * t)) 0 = σ (16 + 21 * k)
        rw [← Nat.add_assoc, g1 0 (by omega)]
        exact rd_kind hs hJ hk
      by_cases j1 : j = 1
      · subst j1
        have e : p = (7 + 3 * t, 1) := by
          have := am_m t ht6
          rw [show 17 + 21 * t = 16 + 21 * t + 1 by omega, hi] at this
          exact Option.some.inj this
        subst e
        show μ' (w + (7 + 3 * t)) 1 = σ (16 + 21 * k + 1)
        rw [← Nat.add_assoc, g1 1 (by omega), rd_m hs hJ hk]
        congr 1
        omega
      by_cases j2 : j = 2
      · subst j2
        have e : p = (7 + 3 * t, 2) := by
          have := am_purse t ht6
          rw [show 18 + 21 * t = 16 + 21 * t + 2 by omega, hi] at this
          exact Option.some.inj this
        subst e
        show μ' (w + (7 + 3 * t)) 2 = σ (16 + 21 * k + 2)
        rw [← Nat.add_assoc, g1 2 (by omega), rd_purse hs hJ hk]
        congr 1
        omega
      by_cases j9 : j < 9
      · have e : p = (8 + 3 * t, j - 3) := by
          have := am_keeps t ht6 (j - 3) (by omega)
          rw [show 19 + 21 * t + (j - 3) = 16 + 21 * t + j by omega, hi] at this
          exact Option.some.inj this
        subst e
        show μ' (w + (8 + 3 * t)) (j - 3) = σ (16 + 21 * k + j)
        have := g2 (j - 3) (by omega)
        rw [locB, locB, rd_keeps hs hJ hk (by omega)] at this
        rw [← Nat.add_assoc, this]
        congr 1
        omega
      · have e : p = (9 + 3 * t, j - 9) := by
          have := am_stock t ht6 (j - 9) (by omega)
          rw [show 25 + 21 * t + (j - 9) = 16 + 21 * t + j by omega, hi] at this
          exact Option.some.inj this
        subst e
        show μ' (w + (9 + 3 * t)) (j - 9) = σ (16 + 21 * k + j)
        have := g3 (j - 9) (by omega)
        rw [locC, locC, rd_stock hs hJ hk (by omega)] at this
        rw [← Nat.add_assoc, this]
        congr 1
        omega
    · have hp : p.1 < 7 + 3 * t ∨ 10 + 3 * t ≤ p.1 := by
        rcases am_sh hi with ⟨-, e, m⟩ | ⟨-, -, e, m⟩ | ⟨a, b, e⟩ | ⟨a, b, e, m⟩ | ⟨a, b, e, m⟩ | ⟨a, b, e, m⟩
        · omega
        · omega
        · rcases e with ⟨e, m⟩ | ⟨e, m⟩ | ⟨e, m⟩ <;> omega
        · omega
        · omega
        · omega
      rw [cpS_out (by omega), f _ (by omega)]
      exact h.1 i p hi hl
  · rw [hns] at hk'
    by_cases e : k' = t
    · subst e
      rw [g1 5 (by omega), show 31 + 21 * k' + g = 16 + 21 * k' + (15 + g) by omega, cpS_in (by omega), show 16 + 21 * k + (15 + g) = 31 + 21 * k + g by omega]
      exact hs.2.1 k hk g hg
    · rw [f _ (by omega), cpS_out (by omega)]
      exact h.2.1 k' hk' g hg
  · rw [cpS_out (by omega), f _ (by omega)]
    exact (h.2.2 u hu).1
  · rw [cpS_out (by omega)] at hi
    rw [cpS_out (by omega), cpS_out (by omega), f _ (by omega)]
    exact (h.2.2 u hu).2 i hi
/-- each shop so many places on -/
def tuGo (σ : Nat → Int32) (b : Nat) : Nat → Nat → (Nat → Int32) → (Nat → Int32)
  | 0, _, τ => τ
  | d + 1, i, τ => tuGo σ b d (i + 1) (cpS τ ((i + b) % nS σ) σ i)
section TURN
variable {σ : Nat → Int32} {b : Nat}
theorem tuGo_ok (hJ : Inv σ) : ∀ d i (τ : Nat → Int32), i + d = nS σ → Inv τ → nS τ = nS σ → (∀ j, j < 16 ∨ 142 ≤ j → τ j = σ j) → Inv (tuGo σ b d i τ) ∧ nS (tuGo σ b d i τ) = nS σ ∧ ∀ j, j < 16 ∨ 142 ≤ j → tuGo σ b d i τ j = σ j := by
  have h6 := hJ.n6
  intro d
  induction d with
  | zero => intro i τ hi hI hn ho; exact ⟨hI, hn, ho⟩
  | succ d ih =>
    intro i τ hi hI hn ho
    have hlt := Nat.mod_lt (i + b) (show 0 < nS σ by omega)
    obtain ⟨a1, a2, a3⟩ := cpS_inv hI hJ (t := (i + b) % nS σ) (k := i) (by omega) (by omega)
    exact ih (i + 1) _ (by omega) a1 (a2.trans hn) (fun j hj => (a3 j hj).trans (ho j hj))
theorem turn2 (hJ : Inv σ) (hb : b < nS σ) : ∀ d i (μ : Mem) (τ : Nat → Int32) n, i + d = nS σ → d < n → RepW μ 1 σ → RepW μ 83 τ → Inv τ → nS τ = nS σ → PW 83 μ (X7_turnFrom_L2 n 83 1 (nI b) (nI i) μ) 0 (tuGo σ b d i τ) := by
  have h6 := hJ.n6
  intro d
  induction d with
  | zero =>
    intro i μ τ n hi hn hs h hI hN
    obtain ⟨n, rfl⟩ : ∃ m, n = m + 1 := ⟨n - 1, by omega⟩
    refine ⟨μ, ?_, h, FrW.rf _ _⟩
    show X7_turnFrom_L2B _ 83 1 (nI b) (nI i) μ = _
    unfold X7_turnFrom_L2B
    rw [rd_n h, hI.s0, hN, if_pos ((nI_leq (by omega) (by omega)).mpr (by omega))]
  | succ d ih =>
    intro i μ τ n hi hn hs h hI hN
    obtain ⟨n, rfl⟩ : ∃ m, n = m + 1 := ⟨n - 1, by omega⟩
    have hlt := Nat.mod_lt (i + b) (show 0 < nS σ by omega)
    have hne : ¬ nI (nS σ) = 0 := fun q => absurd ((eqI (x := 0) 0 rfl (by omega) (by omega : nS σ < 2 ^ 31)).mp q) (by omega)
    have hir := (irm_all (i + b) (by omega) (nS σ) h6).resolve_left (by omega)
    obtain ⟨μ1, a1, r1, f1⟩ := copyS7 (w := 83) (v := 1) (t := (i + b) % nS σ) (k := i) h hI hs hJ (by omega) (by omega) (by omega)
    obtain ⟨c1, c2, -⟩ := cpS_inv hI hJ (t := (i + b) % nS σ) (k := i) (by omega) (by omega)
    obtain ⟨μ2, a2, r2, f2⟩ := ih (i + 1) μ1 _ n (by omega) (by omega) (now_fr hs hJ f1) r1 c1 (c2.trans hN)
    refine ⟨μ2, ?_, r2, f1.tr f2⟩
    show X7_turnFrom_L2B _ 83 1 (nI b) (nI i) μ = _
    unfold X7_turnFrom_L2B
    rw [rd_n h, hI.s0, hN, if_neg (fun q => absurd ((nI_leq (by omega) (by omega)).mp q) (by omega)), gd_nz hne, nI_add, hir, inb_nI (k := (i + b) % nS σ) (by omega) (by omega), gd_t, inb_nI (k := i) (by omega) (by omega), gd_t, clamp_nI (k := (i + b) % nS σ) (by omega), clamp_nI (k := i) (by omega), locA, locA, a1, cal_some, bnd_eq, nI_s]
    exact a2
theorem turns26 (k2 : Nat → Int32 → Int32 → Mem → Res) {i t : Nat} (hi : i < 6) (ht : t < 6) : ∀ d j (μ : Mem) n, j + d = 21 → d < n → X9_turns_L26 k2 n 142 (nI b) (nI i) (nI t) (nI j) μ = k2 142 (nI b) (nI (i + 1)) (sR μ 143 (fun q => if 16 + 21 * t + j ≤ q ∧ q < 37 + 21 * t then μ 145 (q - 21 * t + 21 * i) else μ 143 q)) := by
  intro d
  induction d with
  | zero =>
    intro j μ n hj hn
    obtain ⟨n, rfl⟩ : ∃ m, n = m + 1 := ⟨n - 1, by omega⟩
    show X9_turns_L26B _ _ 142 (nI b) (nI i) (nI t) (nI j) μ = _
    unfold X9_turns_L26B
    rw [if_pos ((lit_le (x := 21) 21 rfl (by omega) (by omega : j < 2 ^ 31)).mpr (by omega)), bnd_eq, nI_s]
    have : (fun q => if 16 + 21 * t + j ≤ q ∧ q < 37 + 21 * t then μ 145 (q - 21 * t + 21 * i) else μ 143 q) = μ 143 := funext (fun q => if_neg (by omega))
    rw [this, sR_id]
  | succ d ih =>
    intro j μ n hj hn
    obtain ⟨n, rfl⟩ : ∃ m, n = m + 1 := ⟨n - 1, by omega⟩
    obtain ⟨x1, x2⟩ := ix9 (k := i) (j := j) (by omega)
    obtain ⟨y1, y2⟩ := ix9 (k := t) (j := j) (by omega)
    show X9_turns_L26B _ _ 142 (nI b) (nI i) (nI t) (nI j) μ = _
    unfold X9_turns_L26B
    rw [if_neg (fun q => absurd ((lit_le (x := 21) 21 rfl (by omega) (by omega : j < 2 ^ 31)).mp q) (by omega)), x1, gd_t, y1, gd_t, bnd_eq, bnd_eq, nI_s, x2, y2, show (142 + 1 : Nat) = 143 from rfl, show (142 + 3 : Nat) = 145 from rfl, ih (j + 1) _ n (by omega) (by omega), mset_sR, sR_sR, sR_same, sR_ne (by omega)]
    have hf : (fun q => if 16 + 21 * t + (j + 1) ≤ q ∧ q < 37 + 21 * t then μ 145 (q - 21 * t + 21 * i) else upd (μ 143) (16 + 21 * t + j) (μ 145 (16 + 21 * i + j)) q) = (fun q => if 16 + 21 * t + j ≤ q ∧ q < 37 + 21 * t then μ 145 (q - 21 * t + 21 * i) else μ 143 q) := by
      funext q
      by_cases e : q = 16 + 21 * t + j
      · rw [e, if_neg (by omega), if_pos (by omega), upd_same]
        congr 1
        omega
      · rw [upd_ne e]
        by_cases c : 16 + 21 * t + j ≤ q ∧ q < 37 + 21 * t
        · rw [if_pos c, if_pos (by omega)]
        · rw [if_neg c, if_neg (by omega)]
    rw [hf]
theorem turns2 (hJ : Inv σ) (hb : b < nS σ) : ∀ d i (μ : Mem) (τ : Nat → Int32) n, i + d = nS σ → d < n → μ 143 = τ → Put μ σ → Inv τ → nS τ = nS σ → X9_turns_L2 n 142 (nI b) (nI i) μ = some (0, sR μ 143 (tuGo σ b d i τ)) := by
  have h6 := hJ.n6
  intro d
  induction d with
  | zero =>
    intro i μ τ n hi hn h hP hI hN
    obtain ⟨n, rfl⟩ : ∃ m, n = m + 1 := ⟨n - 1, by omega⟩
    show X9_turns_L2B _ 142 (nI b) (nI i) μ = some (0, sR μ 143 τ)
    unfold X9_turns_L2B
    rw [show inb (0 : Int32) 516 = true from by decide, gd_t, s0_le h, hI.s0, hN, if_pos ((nI_leq (by omega) (by omega)).mpr (by omega)), ← h, sR_id]
  | succ d ih =>
    intro i μ τ n hi hn h hP hI hN
    obtain ⟨n, rfl⟩ : ∃ m, n = m + 1 := ⟨n - 1, by omega⟩
    have hlt := Nat.mod_lt (i + b) (show 0 < nS σ by omega)
    have hne : ¬ nI (nS σ) = 0 := fun q => absurd ((eqI (x := 0) 0 rfl (by omega) (by omega : nS σ < 2 ^ 31)).mp q) (by omega)
    have hir := (irm_all (i + b) (by omega) (nS σ) h6).resolve_left (by omega)
    obtain ⟨c1, c2, -⟩ := cpS_inv hI hJ (t := (i + b) % nS σ) (k := i) (by omega) (by omega)
    have h26 := turns26 (b := b) (X9_turns_L2 n) (i := i) (t := (i + b) % nS σ) (by omega) (by omega) 21 0 μ FU (by omega) (by decide)
    have hcp : (fun q => if 16 + 21 * ((i + b) % nS σ) + 0 ≤ q ∧ q < 37 + 21 * ((i + b) % nS σ) then μ 145 (q - 21 * ((i + b) % nS σ) + 21 * i) else μ 143 q) = cpS τ ((i + b) % nS σ) σ i := by
      obtain ⟨p, hp⟩ := id hP
      funext q
      unfold cpS
      by_cases c : 16 + 21 * ((i + b) % nS σ) ≤ q ∧ q < 37 + 21 * ((i + b) % nS σ)
      · rw [if_pos c, if_pos (by omega), hp, crr_lt _ _ _ (by omega)]
      · rw [if_neg c, if_neg (by omega), h]
    rw [hcp] at h26
    have h27 := ih (i + 1) (sR μ 143 (cpS τ ((i + b) % nS σ) σ i)) _ n (by omega) (by omega) (sR_same _ _ _) (hP.s _) c1 (c2.trans hN)
    rw [sR_sR] at h27
    show X9_turns_L2B _ 142 (nI b) (nI i) μ = _
    unfold X9_turns_L2B
    rw [show inb (0 : Int32) 516 = true from by decide, gd_t, s0_le h, hI.s0, hN, if_neg (fun q => absurd ((nI_leq (by omega) (by omega)).mp q) (by omega)), gd_t, gd_nz hne, bnd_eq, nI_add, hir]
    exact h26.trans h27
end TURN
def trS (σ : Nat → Int32) (b : Nat) : Nat → Int32 := tuGo σ b (nS σ) 0 σ
def trP (σ : Nat → Int32) (k N v : Nat) : Int32 := dyGo 0 N (trS σ v) (18 + 21 * ((k + v) % nS σ))
section TURNL
variable {σ : Nat → Int32} {k N : Nat}
theorem tr_ok (hI : Inv σ) (hk : k < nS σ) (v : Nat) : Inv (trS σ v) ∧ Kp (trS σ v) (dyGo 0 N (trS σ v)) ∧ (k + v) % nS σ < nS (dyGo 0 N (trS σ v)) ∧ nS (dyGo 0 N (trS σ v)) = nS σ ∧ (∀ j, 516 ≤ j → dyGo 0 N (trS σ v) j = σ j) ∧ rg (trP σ k N v) (-999999) 999999 := by
  obtain ⟨a1, a2, a3⟩ := tuGo_ok (b := v) hI (nS σ) 0 σ (by omega) hI rfl (fun _ _ => rfl)
  have kp := dyGo_kp (L := 0) N (trS σ v) a1
  have hn : nS (dyGo 0 N (trS σ v)) = nS σ := kp.2.1.trans a2
  have hlt := Nat.mod_lt (k + v) (show 0 < nS σ by omega)
  have hk' : (k + v) % nS σ < nS (dyGo 0 N (trS σ v)) := by omega
  exact ⟨a1, kp, hk', hn, fun j hj => (kp.hi j hj).trans (a3 j (by omega)), (kp.1.shop _ hk').2.2.1⟩
theorem turn36 (hI : Inv σ) (hk : k < nS σ) (hN : N ≤ 20) : ∀ d v (b m : Int32) (μ : Mem) n, v + d = nS σ → d < n → RepW μ 1 σ → ∃ μ', X8_turn_L36 n 0 (nI k) (nI N) b m (nI v) μ = some (pck (trP σ k N) d v b m, μ') ∧ FrW 83 μ μ' := by
  have h6 := hI.n6
  intro d
  induction d with
  | zero =>
    intro v b m μ n hv hn h
    obtain ⟨n, rfl⟩ : ∃ m, n = m + 1 := ⟨n - 1, by omega⟩
    refine ⟨μ, ?_, FrW.rf _ _⟩
    show X8_turn_L36B _ 0 (nI k) (nI N) b m (nI v) μ = _
    unfold X8_turn_L36B
    simp only [Nat.zero_add]
    rw [rd_n h, hI.s0, if_pos ((nI_leq (by omega) (by omega)).mpr (by omega))]
    rfl
  | succ d ih =>
    intro v b m μ n hv hn h
    obtain ⟨n, rfl⟩ : ∃ m, n = m + 1 := ⟨n - 1, by omega⟩
    obtain ⟨i1, kp, hk', hns, -, -⟩ := tr_ok (N := N) hI hk v
    have hne : ¬ nI (nS σ) = 0 := fun q => absurd ((eqI (x := 0) 0 rfl (by omega) (by omega : nS σ < 2 ^ 31)).mp q) (by omega)
    have hir := (irm_all (k + v) (by omega) (nS σ) h6).resolve_left (by omega)
    obtain ⟨m1, a1, r1, f1⟩ := trial7 h hI
    obtain ⟨m2, a2, r2, f2⟩ := turn2 hI (b := v) (by omega) (nS σ) 0 m1 σ FU (by omega) (by rw [FU_eq]; omega) (now_fr h hI f1) r1 hI rfl
    have r2' : RepW m2 83 (trS σ v) := r2
    obtain ⟨m3, a3, r3, f3⟩ := pass7 (w := 83) (N := N) (by omega) 0 r2' i1
    have pd := rd_purse r3 kp.1 hk'
    have ff := (f1.tr f2).tr f3
    have hn3 := now_fr h hI ff
    have a2' : f_X7_turnFrom 83 1 (nI v) m1 = some (0, m2) := a2
    obtain ⟨m4, a4, f4⟩ := ih (v + 1) (if trP σ k N v ≤ m then b else nI v) (if trP σ k N v ≤ m then m else trP σ k N v) m3 n (by omega) (by omega) hn3
    refine ⟨m4, ?_, ff.tr f4⟩
    show X8_turn_L36B _ 0 (nI k) (nI N) b m (nI v) μ = _
    unfold X8_turn_L36B X8_turn_J120
    simp only [Nat.zero_add]
    rw [rd_n h, hI.s0, if_neg (fun q => absurd ((nI_leq (by omega) (by omega)).mp q) (by omega)), a1, cal_some, a2', cal_some, a3, cal_some, rd_n hn3, hI.s0, gd_nz hne, nI_add, hir, inb_nI (by omega) (by omega), gd_t, bnd_eq, clamp_nI (by omega), locA, pd, bnd_eq, bnd_eq, nI_s]
    show (if trP σ k N v ≤ m then X8_turn_L36 n 0 (nI k) (nI N) b m (nI (v + 1)) m3 else X8_turn_L36 n 0 (nI k) (nI N) (nI v) (trP σ k N v) (nI (v + 1)) m3) = some ((if trP σ k N v ≤ m then pck (trP σ k N) d (v + 1) b m else pck (trP σ k N) d (v + 1) (nI v) (trP σ k N v)), m4)
    by_cases q : trP σ k N v ≤ m
    · rw [if_pos q, if_pos q] at a4
      rw [if_pos q, if_pos q]
      exact a4
    · rw [if_neg q, if_neg q] at a4
      rw [if_neg q, if_neg q]
      exact a4
theorem turn32s (hI : Inv σ) (hk : k < nS σ) (hN : N ≤ 20) (K : Nat → Int32 → Int32 → Int32 → Int32 → Int32 → Mem → Res) {v : Nat} (hv : v < nS σ) (b m : Int32) {μ : Mem} (h : μ 143 = σ) : ∃ μ', X9_turn_L32B K 142 (nI k) (nI N) b m (nI v) μ = (if nI v = 0 then K 142 (nI k) (nI N) (nI v) (trP σ k N v) (nI (v + 1)) μ' else if trP σ k N v ≤ m then K 142 (nI k) (nI N) b m (nI (v + 1)) μ' else K 142 (nI k) (nI N) (nI v) (trP σ k N v) (nI (v + 1)) μ') ∧ μ' 143 = σ ∧ FrT μ μ' := by
  have h6 := hI.n6
  obtain ⟨i1, kp, hk', hns, hi, -⟩ := tr_ok (N := N) hI hk v
  have hne : ¬ nI (nS σ) = 0 := fun q => absurd ((eqI (x := 0) 0 rfl (by omega) (by omega : nS σ < 2 ^ 31)).mp q) (by omega)
  have hir := (irm_all (k + v) (by omega) (nS σ) h6).resolve_left (by omega)
  obtain ⟨m1, a1, s1, p1, g1⟩ := carryS h
  have a2 : f_X9_turns 142 (nI v) m1 = some (0, sR m1 143 (trS σ v)) := turns2 hI hv (nS σ) 0 m1 σ FU (by omega) (by rw [FU_eq]; omega) s1 p1 hI rfl
  obtain ⟨m3, a3, s3, g3⟩ := go9 (N := N) (μ := sR m1 143 (trS σ v)) (by omega) (sR_same _ _ _) i1
  have s0 : dyGo 0 N (trS σ v) 0 = nI (nS σ) := by rw [kp.1.s0, hns]
  refine ⟨sR m3 143 σ, ?_, sR_same _ _ _, ((g1.tr (FrT.s _ _)).tr g3.t).tr (FrT.s _ _)⟩
  unfold X9_turn_L32B X9_turn_J106 X9_turn_J113
  rw [show inb (0 : Int32) 516 = true from by decide, gd_t, s0_le h, hI.s0, if_neg (fun q => absurd ((nI_leq (by omega) (by omega)).mp q) (by omega)), a1, cal_some, a2, cal_some, a3, cal_some, gd_t, s0_le s3, s0, gd_nz hne, nI_add, hir, its9_2 (by omega), cal_some, carryB ((p1.s _).fr g3) (by rw [s3]; exact hi), cal_some, s3, bnd_eq, bnd_eq, nI_s]
  rfl
theorem turn32 (hI : Inv σ) (hk : k < nS σ) (hN : N ≤ 20) : ∀ d v (b m : Int32) (μ : Mem) n, 0 < v → v + d = nS σ → d < n → μ 143 = σ → ∃ μ', X9_turn_L32 n 142 (nI k) (nI N) b m (nI v) μ = some (pck (trP σ k N) d v b m, μ') ∧ μ' 143 = σ ∧ FrT μ μ' := by
  have h6 := hI.n6
  intro d
  induction d with
  | zero =>
    intro v b m μ n h0 hv hn h
    obtain ⟨n, rfl⟩ : ∃ m, n = m + 1 := ⟨n - 1, by omega⟩
    refine ⟨μ, ?_, h, FrT.rf _⟩
    show X9_turn_L32B _ 142 (nI k) (nI N) b m (nI v) μ = _
    unfold X9_turn_L32B
    rw [show inb (0 : Int32) 516 = true from by decide, gd_t, s0_le h, hI.s0, if_pos ((nI_leq (by omega) (by omega)).mpr (by omega))]
    rfl
  | succ d ih =>
    intro v b m μ n h0 hv hn h
    obtain ⟨n, rfl⟩ : ∃ m, n = m + 1 := ⟨n - 1, by omega⟩
    obtain ⟨m3, a3, s3, g3⟩ := turn32s hI hk hN (X9_turn_L32 n) (v := v) (by omega) b m h
    obtain ⟨m4, a4, s4, g4⟩ := ih (v + 1) (if trP σ k N v ≤ m then b else nI v) (if trP σ k N v ≤ m then m else trP σ k N v) m3 n (by omega) (by omega) (by omega) s3
    refine ⟨m4, ?_, s4, g3.tr g4⟩
    show X9_turn_L32B _ 142 (nI k) (nI N) b m (nI v) μ = some ((if trP σ k N v ≤ m then pck (trP σ k N) d (v + 1) b m else pck (trP σ k N) d (v + 1) (nI v) (trP σ k N v)), m4)
    rw [a3, if_neg (fun q => absurd ((eqI (x := 0) 0 rfl (by omega) (by omega : v < 2 ^ 31)).mp q) (by omega))]
    by_cases q : trP σ k N v ≤ m
    · rw [if_pos q, if_pos q] at a4
      rw [if_pos q, if_pos q]
      exact a4
    · rw [if_neg q, if_neg q] at a4
      rw [if_neg q, if_neg q]
      exact a4
theorem turn32f (hI : Inv σ) (hk : k < nS σ) (hN : N ≤ 20) (μ : Mem) {n : Nat} (hn : 20 < n) (h : μ 143 = σ) : ∃ μ', X9_turn_L32 n 142 (nI k) (nI N) 0 0 0 μ = some (pck (trP σ k N) (nS σ) 0 0 (-1000000), μ') ∧ μ' 143 = σ ∧ FrT μ μ' := by
  have h6 := hI.n6
  obtain ⟨n, rfl⟩ : ∃ m, n = m + 1 := ⟨n - 1, by omega⟩
  obtain ⟨s, hs⟩ : ∃ s, nS σ = s + 1 := ⟨nS σ - 1, by omega⟩
  obtain ⟨m3, a3, s3, g3⟩ := turn32s hI hk hN (X9_turn_L32 n) (v := 0) (by omega) 0 0 h
  obtain ⟨m4, a4, s4, g4⟩ := turn32 hI hk hN s 1 (nI 0) (trP σ k N 0) m3 n (by omega) (by omega) (by omega) s3
  refine ⟨m4, ?_, s4, g3.tr g4⟩
  rw [hs, pck_s (tr_ok (N := N) hI hk 0).2.2.2.2.2]
  show X9_turn_L32B _ 142 (nI k) (nI N) 0 0 (nI 0) μ = _
  rw [a3, if_pos (by decide)]
  exact a4
end TURNL
theorem sim_turn {μ : Mem} (h : Rel μ) (x y : Int32) : Sm (f_X8_turn 0 x y μ) (f_X9_turn 142 x y) := by
  obtain ⟨h1, h2, h3⟩ := id h
  have h6 := h2.n6
  by_cases c2 : (0 : Int32) ≤ x ∧ x ≤ μ 143 0 - 1
  · by_cases c1 : (1 : Int32) ≤ y ∧ y ≤ 20
    · obtain ⟨N, -, hN, e1⟩ := lit_rg 1 20 rfl rfl (by omega) (by omega) c1
      obtain ⟨k, hk, e2⟩ := h2.sh c2
      obtain ⟨μ1, a1, f1⟩ := turn36 h2 hk hN (nS (μ 143)) 0 0 (-1000000) μ FU (by omega) (by rw [FU_eq]; omega) h1
      have hX : f_X8_turn 0 x y μ = some (pck (trP (μ 143) k N) (nS (μ 143)) 0 0 (-1000000), μ1) := by
        unfold f_X8_turn
        simp only [Nat.zero_add]
        rw [hasShop7 h1, cal_some, b2_t c2, if_neg (by decide), within_eq, cal_some, b2_t c1, if_neg (by decide), e1, e2]
        exact a1
      have hm : μ1 143 = μ 143 := f1.c83 143 (by omega)
      obtain ⟨μ2, b1, s2, g2⟩ := turn32f h2 hk hN μ1 (n := FU) (by decide) hm
      refine Sm.mk h hX (now_fr h1 h2 f1) f1.c83 h2 ⟨μ2, ?_, s2, g2.m⟩
      unfold f_X9_turn
      rw [isShop9 hm, cal_some, b2_t c2, if_neg (by decide), in_eq, cal_some, b2_t c1, if_neg (by decide), e1, e2]
      exact b1
    · refine Sm.er h (k := 1) (by omega) ?_ (fun m e _ => ?_)
      · unfold f_X8_turn X8_turn_J21
        simp only [Nat.zero_add]
        rw [hasShop7 h1, cal_some, b2_t c2, if_neg (by decide), within_eq, cal_some, b2_f c1, if_pos rfl]
        exact cal_e _
      · unfold f_X9_turn X9_turn_J18
        rw [isShop9 e, cal_some, b2_t c2, if_neg (by decide), in_eq, cal_some, b2_f c1, if_pos rfl]
        exact cal_e _
  · refine Sm.er h (k := 1) (by omega) ?_ (fun m e _ => ?_)
    · unfold f_X8_turn X8_turn_J21
      simp only [Nat.zero_add]
      rw [hasShop7 h1, cal_some, b2_f c2, if_pos rfl]
      exact cal_e _
    · unfold f_X9_turn X9_turn_J18
      rw [isShop9 e, cal_some, b2_f c2, if_pos rfl]
      exact cal_e _
end
