/-! PURE 31: sales told are checked -/
section
theorem w7_ok {σ : Nat → Int32} (hI : Inv σ) : Inv (upd σ 7 0) ∧ ∀ {μ : Mem}, RepW μ 1 σ → RepW (mset μ 1 14 0) 1 (upd σ 7 0) := by
  constructor
  · refine hI.cnts (fun i a b c d => upd_ne d) (by rw [upd_ne (by omega)]; exact hI.2.1) (by rw [upd_ne (by omega)]; exact hI.r6) (by rw [upd_same]; unfold rg; decide) (fun c hc => ?_) (fun i hi => ?_)
    · have h10 := hI.c10
      unfold nC at hc
      rw [upd_ne (by omega)] at hc
      have hc2 : c < nC σ := hc
      exact (hI.cust c hc2).eq (by omega) (fun i a b => upd_ne (by omega))
    · have h60 := hI.T60
      unfold nT at hi
      rw [upd_ne (by omega)] at hi
      have hi2 : i < nT σ := hi
      rw [upd_ne (by omega)]
      exact hI.tape i hi2
  · intro μ h
    refine ⟨?_, h.2.1.wr hI.n6 (i := 7) (p := (0, 14)) rfl (by omega) _, h.2.2.wr hI.t60 (i := 7) (p := (0, 14)) rfl _⟩
    refine (h.1.wr (i := 7) (p := (0, 14)) rfl _).mono (fun j hj => Or.inl ?_)
    unfold lve at hj ⊢
    unfold nS nC nT nW at hj ⊢
    rw [upd_ne (by omega), upd_ne (by omega), upd_ne (by omega), upd_same] at hj
    exact ⟨hj.1, hj.2.1, hj.2.2.1, fun a => absurd (hj.2.2.2 a) (by rw [show (0 : Int32).toNatClampNeg = 0 from by decide]; omega)⟩
theorem chk_end {σ0 : Nat → Int32} {m : Mem} (hp : Put m σ0) (h : ∀ j, 516 ≤ j → m 143 j = σ0 j) (x y : Int32) : X9_check_J85 142 x y m = some (if y = 0 then 1 + x else 0, sR m 143 σ0) := by
  unfold X9_check_J85 X9_check_J107
  rw [carryB hp h, cal_some]
  by_cases q : y = 0
  · rw [if_pos q, if_pos q]
  · rw [if_neg q, if_neg q]
theorem i492 (i : Nat) : (492 : Int32) + nI i = nI (492 + i) := nI_add 492 i
theorem chk_go {W : Nat} (hW : W ≤ 24) {σ0 τ : Nat → Int32} : ∀ d i (μ : Mem) (σ : Nat → Int32) n, i + d = W → d < n → RepW μ 83 σ → Inv σ → (∀ j, j < W → μ (1 + 6) j = τ j) → (∀ j, j < W → σ (492 + j) = τ j) → (∀ j, 516 ≤ j → σ j = σ0 j) → ∃ r μ', X8_check_L29 n 0 (nI W) (nI i) μ = some (r, μ') ∧ FrW 83 μ μ' ∧ ∀ (m : Mem) n', d + 2 < n' → m 143 = σ → Put m σ0 → ∃ m', X9_check_L31 n' 142 (nI W) (nI i) 1 m = some (r, m') ∧ m' 143 = σ0 ∧ FrT m m' := by
  intro d
  induction d with
  | zero =>
    intro i μ σ n hi hn h hI ht hs ho
    obtain ⟨n, rfl⟩ : ∃ m, n = m + 1 := ⟨n - 1, by omega⟩
    refine ⟨0, μ, ?_, FrW.rf _ _, fun m n' hn' e1 hP => ⟨sR m 143 σ0, ?_, sR_same _ _ _, FrT.s _ _⟩⟩
    · show X8_check_L29B _ 0 (nI W) (nI i) μ = _
      unfold X8_check_L29B
      rw [if_pos ((nI_leq (by omega) (by omega)).mpr (by omega))]
    · obtain ⟨n', rfl⟩ : ∃ m, n' = m + 1 := ⟨n' - 1, by omega⟩
      show X9_check_L31B _ 142 (nI W) (nI i) 1 m = _
      unfold X9_check_L31B
      rw [if_pos ((nI_leq (by omega) (by omega)).mpr (by omega)), chk_end hP (by rw [e1]; exact ho), if_neg (by decide)]
  | succ d ih =>
    intro i μ σ n hi hn h hI ht hs ho
    obtain ⟨n, rfl⟩ : ∃ m, n = m + 1 := ⟨n - 1, by omega⟩
    obtain ⟨μ1, a1, r1, f1⟩ := pass7 (w := 83) (N := 1) (by omega) 0 h hI
    have r1' : RepW μ1 83 (dayS 0 σ) := r1
    have kp := dayS_kp (L := 0) hI
    have hx : X8_check_L29 (n + 1) 0 (nI W) (nI i) μ = if dayS 0 σ 3 = τ i then X8_check_L29 n 0 (nI W) (nI (i + 1)) μ1 else some (1 + nI i, μ1) := by
      show X8_check_L29B _ 0 (nI W) (nI i) μ = _
      unfold X8_check_L29B
      simp only [Nat.zero_add]
      rw [if_neg (fun q => absurd ((nI_leq (by omega) (by omega)).mp q) (by omega)), show (1 : Int32) = nI 1 from rfl, a1, cal_some, inb_nI (by omega) (by omega), gd_t, clamp_nI (by omega), rd_sales r1', f1 (1 + 6) (by omega), ht i (by omega), bnd_eq, nI_add]
    have hs' : ∀ j, j < W → dayS 0 σ (492 + j) = τ j := fun j hj => by rw [kp.2.2.2 (492 + j) (by omega) (by omega) (by omega) (by omega)]; exact hs j hj
    have ho' : ∀ j, 516 ≤ j → dayS 0 σ j = σ0 j := fun j hj => by rw [kp.hi j hj]; exact ho j hj
    by_cases c : dayS 0 σ 3 = τ i
    · obtain ⟨r, μ', b1, b2, b3⟩ := ih (i + 1) μ1 _ n (by omega) (by omega) r1' kp.1 (fun j hj => by rw [f1 (1 + 6) (by omega)]; exact ht j hj) hs' ho'
      refine ⟨r, μ', ?_, f1.tr b2, fun m n' hn' e1 hP => ?_⟩
      · rw [hx, if_pos c]
        exact b1
      · obtain ⟨n', rfl⟩ : ∃ m, n' = m + 1 := ⟨n' - 1, by omega⟩
        obtain ⟨m1, g1, g2, g3⟩ := day9 0 e1 hI
        obtain ⟨m2, d1, d2, d3⟩ := b3 m1 n' (by omega) g2 (hP.fr g3)
        refine ⟨m2, ?_, d2, g3.t.tr d3⟩
        show X9_check_L31B _ 142 (nI W) (nI i) 1 m = _
        unfold X9_check_L31B X9_check_J69 X9_check_J80
        rw [if_neg (fun q => absurd ((nI_leq (by omega) (by omega)).mp q) (by omega)), if_neg (by decide), g1, cal_some, i492, inb_nI (by omega) (by omega), gd_t, show inb (3 : Int32) 516 = true from by decide, gd_t, clamp_nI (by omega), show (3 : Int32).toNatClampNeg = 3 from by decide, show (142 + 1 : Nat) = 143 from rfl, g2, hs' i (by omega), if_pos c.symm, if_neg (by decide), bnd_eq, nI_s]
        exact d1
    · refine ⟨1 + nI i, μ1, ?_, f1, fun m n' hn' e1 hP => ?_⟩
      · rw [hx, if_neg c]
      · obtain ⟨n', rfl⟩ : ∃ m, n' = m + 1 + 1 := ⟨n' - 2, by omega⟩
        obtain ⟨m1, g1, g2, g3⟩ := day9 0 e1 hI
        refine ⟨sR m1 143 σ0, ?_, sR_same _ _ _, g3.t.tr (FrT.s _ _)⟩
        show X9_check_L31B _ 142 (nI W) (nI i) 1 m = _
        unfold X9_check_L31B X9_check_J69 X9_check_J80
        rw [if_neg (fun q => absurd ((nI_leq (by omega) (by omega)).mp q) (by omega)), if_neg (by decide), g1, cal_some, i492, inb_nI (by omega) (by omega), gd_t, show inb (3 : Int32) 516 = true from by decide, gd_t, clamp_nI (by omega), show (3 : Int32).toNatClampNeg = 3 from by decide, show (142 + 1 : Nat) = 143 from rfl, g2, hs' i (by omega), if_neg (fun q => c q.symm), if_pos rfl, bnd_eq, Int32.add_zero]
        show X9_check_L31B _ 142 (nI W) (nI i) 0 m1 = _
        unfold X9_check_L31B
        rw [if_neg (fun q => absurd ((nI_leq (by omega) (by omega)).mp q) (by omega)), if_pos rfl, chk_end (hP.fr g3) (by rw [g2]; exact ho'), if_pos rfl]
theorem sim_check {μ : Mem} (h : Rel μ) : Sm (f_X8_check 0 μ) (f_X9_check 142) := by
  obtain ⟨h1, h2, h3⟩ := id h
  have h24 := h2.w24
  obtain ⟨hI0, hR0⟩ := w7_ok h2
  have r0 := hR0 h1
  obtain ⟨μ1, a1, r1, f1⟩ := trial7 r0 hI0
  have hwt : ∀ j, j < nW (μ 143) → μ (1 + 6) j = μ 143 (492 + j) := fun j hj => h1.1 _ _ (am_wait j (by omega)) ⟨fun _ a => absurd a (by omega), fun _ a => absurd a (by omega), fun _ a => absurd a (by omega), fun _ => by omega⟩
  obtain ⟨r, μ', b1, b2, b3⟩ := chk_go (W := nW (μ 143)) h24 (σ0 := upd (μ 143) 7 0) (τ := fun j => μ 143 (492 + j)) (nW (μ 143)) 0 μ1 _ FU (by omega) (by rw [FU_eq]; omega) r1 hI0 (fun j hj => by rw [f1 _ (by omega), mset_row (by omega)]; exact hwt j hj) (fun j hj => upd_ne (by omega)) (fun _ _ => rfl)
  have hX : f_X8_check 0 μ = some (r, μ') := by
    unfold f_X8_check
    simp only [Nat.zero_add]
    rw [bnd_eq, bnd_eq, rd_waits h1, h2.s7, a1, cal_some]
    exact b1
  have ff := f1.tr b2
  have fc : FrC μ μ' := (FrW.m0 (w := 1)).c1.tr ff.c83
  have hm : μ' 143 = μ 143 := fc 143 (by omega)
  obtain ⟨m1, d1, d2, d3, d4⟩ := carryS (μ := sR μ' 143 (upd (μ 143) 7 0)) (sR_same _ _ _)
  obtain ⟨m2, g1, g2, g3⟩ := b3 m1 FU (by rw [FU_eq]; omega) d2 d3
  refine Sm.mk h hX (now_fr r0 hI0 ff) fc hI0 ⟨m2, ?_, g2, (FrM.s143 _ _).tr (d4.tr g3).m⟩
  unfold f_X9_check
  rw [show inb (7 : Int32) 516 = true from by decide, gd_t, bnd_eq, gd_t, bnd_eq, show (7 : Int32).toNatClampNeg = 7 from by decide, show (142 + 1 : Nat) = 143 from rfl, mset_sR, hm, h2.s7]
  rw [show (142 + 1 : Nat) = 143 from rfl] at d1
  rw [d1, cal_some]
  exact g1
end
