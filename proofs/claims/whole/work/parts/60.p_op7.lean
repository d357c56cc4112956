/-! PURE 25: what would be: ahead, keep, range -/
section
theorem lit_lt {x : Int32} (a : Nat) (hx : x = nI a) {i : Nat} (ha : a < 2 ^ 31) (hi : i < 2 ^ 31) : (x < nI i) ↔ a < i := by
  rw [hx]
  exact nI_ltI ha hi
theorem now_fr {μ μ' : Mem} {σ : Nat → Int32} (h : RepW μ 1 σ) (hI : Inv σ) (f : FrW 83 μ μ') : RepW μ' 1 σ := h.fr hI (fun l a b => f l (by omega))
theorem trial7 {μ : Mem} {σ : Nat → Int32} (h : RepW μ 1 σ) (hI : Inv σ) : PW 83 μ (f_X7_copyFrom 83 1 μ) 0 σ := copy7 (by omega) h hI
/-- the model tries in its own row, and lays it back -/
def FrT (μ μ' : Mem) : Prop := ∀ l, l ≠ 143 → l ≠ 145 → l ≠ 148 → l ≠ 149 → μ' l = μ l
theorem FrT.tr {a b c : Mem} (h1 : FrT a b) (h2 : FrT b c) : FrT a c := fun l x y z u => (h2 l x y z u).trans (h1 l x y z u)
theorem FrT.rf (μ : Mem) : FrT μ μ := fun _ _ _ _ _ => rfl
theorem FrG.t {a b : Mem} (h : FrG a b) : FrT a b := fun l x _ z u => h l x z u
theorem FrT.s (μ : Mem) (f : Nat → Int32) : FrT μ (sR μ 143 f) := fun l x _ _ _ => sR_ne x
theorem FrT.m {a b : Mem} (h : FrT a b) : FrM a b := fun l hl => h l (by unfold oc at hl; omega) (by unfold oc at hl; omega) (by unfold oc at hl; omega) (by unfold oc at hl; omega)
def Put (μ : Mem) (σ : Nat → Int32) : Prop := ∃ p, μ 145 = crr σ p
theorem Put.fr {μ μ' : Mem} {σ : Nat → Int32} (h : Put μ σ) (f : FrG μ μ') : Put μ' σ := by
  obtain ⟨p, hp⟩ := h
  exact ⟨p, (f 145 (by omega) (by omega) (by omega)).trans hp⟩
theorem Put.s {μ : Mem} {σ : Nat → Int32} (h : Put μ σ) (f : Nat → Int32) : Put (sR μ 143 f) σ := by
  obtain ⟨p, hp⟩ := h
  exact ⟨p, (sR_ne (by omega)).trans hp⟩
theorem crr_back {σ p σ' : Nat → Int32} (h : ∀ j, 516 ≤ j → σ' j = σ j) : crr (crr σ p) σ' = σ := by
  funext j
  unfold crr
  by_cases q : j < 516
  · rw [if_pos q, if_pos q]
  · rw [if_neg q, h j (by omega)]
theorem carryS {μ : Mem} {σ : Nat → Int32} (h : μ 143 = σ) : ∃ μ', f_X9_carry (142 + 1) 516 (142 + 3) 516 μ = some (0, μ') ∧ μ' 143 = σ ∧ Put μ' σ ∧ FrT μ μ' := by
  refine ⟨_, carry9 (by omega) μ, (sR_ne (by omega)).trans h, ⟨μ 145, ?_⟩, fun l _ b _ _ => sR_ne b⟩
  rw [← h]
  exact sR_same _ _ _
theorem carryB {μ : Mem} {σ : Nat → Int32} (hp : Put μ σ) (h : ∀ j, 516 ≤ j → μ 143 j = σ j) : f_X9_carry (142 + 3) 516 (142 + 1) 516 μ = some (0, sR μ 143 σ) := by
  obtain ⟨p, hp⟩ := hp
  rw [carry9 (by omega) μ, show μ (142 + 3) = crr σ p from hp, show μ (142 + 1) = μ 143 from rfl, crr_back h]
theorem Kp.hi {σ σ' : Nat → Int32} (h : Kp σ σ') : ∀ j, 516 ≤ j → σ' j = σ j := fun j _ => h.2.2.2 j (by omega) (by omega) (by omega) (by omega)
theorem sim_then {μ : Mem} (h : Rel μ) (x y z : Int32) : Sm (f_X8_then 0 x y z μ) (f_X9_then 142 x y z) := by
  obtain ⟨h1, h2, h3⟩ := id h
  by_cases c1 : (0 : Int32) ≤ x ∧ x ≤ 60
  · by_cases c2 : (0 : Int32) ≤ y ∧ y ≤ μ 143 0 - 1
    · by_cases c3 : (0 : Int32) ≤ z ∧ z ≤ 15
      · obtain ⟨N, -, hN, e1⟩ := lit_rg 0 60 rfl rfl (by omega) (by omega) c1
        obtain ⟨k, hk, e2⟩ := h2.sh c2
        obtain ⟨j, -, hj, e3⟩ := lit_rg 0 15 rfl rfl (by omega) (by omega) c3
        obtain ⟨μ1, a1, r1, f1⟩ := trial7 h1 h2
        obtain ⟨μ2, a2, r2, f2⟩ := pass7 (w := 83) (N := N) (by omega) 0 r1 h2
        have kp := dyGo_kp (L := 0) N _ h2
        have hk' : k < nS (dyGo 0 N (μ 143)) := by rw [kp.2.1]; exact hk
        have hX : f_X8_then 0 x y z μ = some (fct (dyGo 0 N (μ 143)) k j, μ2) := by
          unfold f_X8_then
          simp only [Nat.zero_add]
          rw [within_eq, cal_some, b2_t c1, if_neg (by decide), hasShop7 h1, cal_some, b2_t c2, if_neg (by decide), within_eq, cal_some, b2_t c3, if_neg (by decide), a1, cal_some, e1, a2, cal_some, e2, e3, factOf7 r2 kp.1 hk' hj, cal_some]
        have hm : μ2 143 = μ 143 := (f1.tr f2).c83 143 (by omega)
        obtain ⟨m1, b1, s1, p1, g1⟩ := carryS hm
        obtain ⟨m2, b3, s2, g2⟩ := go9 (N := N) (by omega) s1 h2
        refine Sm.mk h hX (now_fr h1 h2 (f1.tr f2)) (f1.tr f2).c83 h2 ⟨sR m2 143 (μ 143), ?_, sR_same _ _ _, ((g1.tr g2.t).tr (FrT.s _ _)).m⟩
        unfold f_X9_then
        rw [in_eq, cal_some, b2_t c1, if_neg (by decide), isShop9 hm, cal_some, b2_t c2, if_neg (by decide), in_eq, cal_some, b2_t c3, if_neg (by decide), b1, cal_some, e1, b3, cal_some, e2, e3, toldShop9 s2 kp.1 hk' hj, cal_some, carryB (p1.fr g2) (by rw [s2]; exact kp.hi), cal_some]
      · refine Sm.er h (k := 1) (by omega) ?_ (fun m e _ => ?_)
        · unfold f_X8_then X8_then_J31
          simp only [Nat.zero_add]
          rw [within_eq, cal_some, b2_t c1, if_neg (by decide), hasShop7 h1, cal_some, b2_t c2, if_neg (by decide), within_eq, cal_some, b2_f c3, if_pos rfl]
          exact cal_e _
        · unfold f_X9_then X9_then_J28
          rw [in_eq, cal_some, b2_t c1, if_neg (by decide), isShop9 e, cal_some, b2_t c2, if_neg (by decide), in_eq, cal_some, b2_f c3, if_pos rfl]
          exact cal_e _
    · refine Sm.er h (k := 1) (by omega) ?_ (fun m e _ => ?_)
      · unfold f_X8_then X8_then_J31
        simp only [Nat.zero_add]
        rw [within_eq, cal_some, b2_t c1, if_neg (by decide), hasShop7 h1, cal_some, b2_f c2, if_pos rfl]
        exact cal_e _
      · unfold f_X9_then X9_then_J28
        rw [in_eq, cal_some, b2_t c1, if_neg (by decide), isShop9 e, cal_some, b2_f c2, if_pos rfl]
        exact cal_e _
  · refine Sm.er h (k := 1) (by omega) ?_ (fun m e _ => ?_)
    · unfold f_X8_then X8_then_J31
      rw [within_eq, cal_some, b2_f c1, if_pos rfl]
      exact cal_e _
    · unfold f_X9_then X9_then_J28
      rw [in_eq, cal_some, b2_f c1, if_pos rfl]
      exact cal_e _
/-- the greatest of several, the first of them -/
def pck (P : Nat → Int32) : Nat → Nat → Int32 → Int32 → Int32
  | 0, _, b, _ => b
  | d + 1, v, b, m => if P v ≤ m then pck P d (v + 1) b m else pck P d (v + 1) (nI v) (P v)
theorem low_purse {x : Int32} (h : rg x (-999999) 999999) : ¬ x ≤ -1000000 := by
  intro q
  have := Int32.le_iff_toInt_le.mp q
  have e : (-1000000 : Int32).toInt = -1000000 := by decide
  rw [e] at this
  have := h.1
  omega
theorem pck_s {P : Nat → Int32} (h : rg (P 0) (-999999) 999999) (d : Nat) : pck P (d + 1) 0 0 (-1000000) = pck P d 1 (nI 0) (P 0) := if_neg (low_purse h)
def kpP (σ : Nat → Int32) (k g N v : Nat) : Int32 := dyGo 0 N (upd σ (19 + 21 * k + g) (nI v)) (18 + 21 * k)
section KEEP
variable {σ : Nat → Int32} {k g N : Nat}
theorem kp_ok (hI : Inv σ) (hk : k < nS σ) (hg : g < 6) {v : Nat} (hv : v ≤ 9) : Inv (upd σ (19 + 21 * k + g) (nI v)) ∧ Kp (upd σ (19 + 21 * k + g) (nI v)) (dyGo 0 N (upd σ (19 + 21 * k + g) (nI v))) ∧ k < nS (dyGo 0 N (upd σ (19 + 21 * k + g) (nI v))) ∧ (∀ j, 516 ≤ j → dyGo 0 N (upd σ (19 + 21 * k + g) (nI v)) j = σ j) ∧ rg (kpP σ k g N v) (-999999) 999999 := by
  have h6 := hI.n6
  have i1 : Inv (upd σ (19 + 21 * k + g) (nI v)) := hI.uKeeps (by omega) hg (nI_rg (n := 9) hv (by omega))
  have kp := dyGo_kp (L := 0) N _ i1
  have hk' : k < nS (dyGo 0 N (upd σ (19 + 21 * k + g) (nI v))) := by
    rw [kp.2.1]
    unfold nS
    rw [upd_ne (by omega)]
    exact hk
  exact ⟨i1, kp, hk', fun j hj => by rw [kp.hi j hj, upd_ne (by omega)], (kp.1.shop k hk').2.2.1⟩
theorem keep44 (hI : Inv σ) (hk : k < nS σ) (hg : g < 6) (hN : N ≤ 20) : ∀ d v (b m : Int32) (μ : Mem) n, v + d = 10 → d < n → RepW μ 1 σ → ∃ μ', X8_keep_L44 n 0 (nI k) (nI g) (nI N) b m (nI v) μ = some (pck (kpP σ k g N) d v b m, μ') ∧ FrW 83 μ μ' := by
  have h6 := hI.n6
  intro d
  induction d with
  | zero =>
    intro v b m μ n hv hn h
    obtain ⟨n, rfl⟩ : ∃ m, n = m + 1 := ⟨n - 1, by omega⟩
    refine ⟨μ, ?_, FrW.rf _ _⟩
    show X8_keep_L44B _ 0 (nI k) (nI g) (nI N) b m (nI v) μ = _
    unfold X8_keep_L44B
    rw [if_pos ((lit_lt (x := 9) 9 rfl (by omega) (by omega : v < 2 ^ 31)).mpr (by omega))]
    rfl
  | succ d ih =>
    intro v b m μ n hv hn h
    obtain ⟨n, rfl⟩ : ∃ m, n = m + 1 := ⟨n - 1, by omega⟩
    obtain ⟨i1, kp, hk', -, -⟩ := kp_ok (N := N) hI hk hg (v := v) (by omega)
    obtain ⟨m1, a1, r1, f1⟩ := trial7 h hI
    have r2 := wr_keeps r1 hI (k := k) (g := g) (by omega) hg (nI v)
    obtain ⟨m3, a3, r3, f3⟩ := pass7 (w := 83) (N := N) (by omega) 0 r2 i1
    have pd := rd_purse r3 kp.1 hk'
    have f2 : FrW 83 m1 (mset m1 (83 + 8 + 3 * k) g (nI v)) := by
      rw [Nat.add_assoc]
      exact FrW.ms (by omega)
    have ff := (f1.tr f2).tr f3
    obtain ⟨m4, a4, f4⟩ := ih (v + 1) (if kpP σ k g N v ≤ m then b else nI v) (if kpP σ k g N v ≤ m then m else kpP σ k g N v) m3 n (by omega) (by omega) (now_fr h hI ff)
    refine ⟨m4, ?_, ff.tr f4⟩
    show X8_keep_L44B _ 0 (nI k) (nI g) (nI N) b m (nI v) μ = _
    unfold X8_keep_L44B X8_keep_J122
    simp only [Nat.zero_add]
    rw [if_neg (fun q => absurd ((lit_lt (x := 9) 9 rfl (by omega) (by omega : v < 2 ^ 31)).mp q) (by omega)), a1, cal_some, inb_nI (by omega) (by omega), gd_t, inb_nI hg (by omega), gd_t, bnd_eq, clamp_nI (by omega), clamp_nI (by omega), locA, locB, a3, cal_some, gd_t, pd, gd_t, bnd_eq, bnd_eq, bnd_eq, nI_s]
    show (if kpP σ k g N v ≤ m then X8_keep_L44 n 0 (nI k) (nI g) (nI N) b m (nI (v + 1)) m3 else X8_keep_L44 n 0 (nI k) (nI g) (nI N) (nI v) (kpP σ k g N v) (nI (v + 1)) m3) = some ((if kpP σ k g N v ≤ m then pck (kpP σ k g N) d (v + 1) b m else pck (kpP σ k g N) d (v + 1) (nI v) (kpP σ k g N v)), m4)
    by_cases q : kpP σ k g N v ≤ m
    · rw [if_pos q, if_pos q] at a4
      rw [if_pos q, if_pos q]
      exact a4
    · rw [if_neg q, if_neg q] at a4
      rw [if_neg q, if_neg q]
      exact a4
theorem keep40s (hI : Inv σ) (hk : k < nS σ) (hg : g < 6) (hN : N ≤ 20) (K : Nat → Int32 → Int32 → Int32 → Int32 → Int32 → Int32 → Mem → Res) {v : Nat} (hv : v ≤ 9) (b m : Int32) {μ : Mem} (h : μ 143 = σ) : ∃ μ', X9_keep_L40B K 142 (nI k) (nI g) (nI N) b m (nI v) μ = (if nI v = 0 then K 142 (nI k) (nI g) (nI N) (nI v) (kpP σ k g N v) (nI (v + 1)) μ' else if kpP σ k g N v ≤ m then K 142 (nI k) (nI g) (nI N) b m (nI (v + 1)) μ' else K 142 (nI k) (nI g) (nI N) (nI v) (kpP σ k g N v) (nI (v + 1)) μ') ∧ μ' 143 = σ ∧ FrT μ μ' := by
  have h6 := hI.n6
  obtain ⟨i1, kp, hk', hi, -⟩ := kp_ok (N := N) hI hk hg (v := v) (by omega)
  obtain ⟨m1, a1, s1, p1, g1⟩ := carryS h
  have a2 := lays9_k (μ := m1) (k := k) (g := g) (by omega) hg (nI v)
  rw [s1] at a2
  obtain ⟨m3, a3, s3, g3⟩ := go9 (N := N) (μ := sR m1 143 (upd σ (19 + 21 * k + g) (nI v))) (by omega) (sR_same _ _ _) i1
  refine ⟨sR m3 143 σ, ?_, sR_same _ _ _, ((g1.tr (FrT.s _ _)).tr g3.t).tr (FrT.s _ _)⟩
  unfold X9_keep_L40B X9_keep_J104 X9_keep_J112
  rw [if_neg (fun q => absurd ((lit_le (x := 10) 10 rfl (by omega) (by omega : v < 2 ^ 31)).mp q) (by omega)), a1, cal_some, a2, cal_some, a3, cal_some, its9_2 (by omega), cal_some, carryB ((p1.s _).fr g3) (by rw [s3]; exact hi), cal_some, s3, bnd_eq, bnd_eq, nI_s]
  rfl
theorem keep40 (hI : Inv σ) (hk : k < nS σ) (hg : g < 6) (hN : N ≤ 20) : ∀ d v (b m : Int32) (μ : Mem) n, 0 < v → v + d = 10 → d < n → μ 143 = σ → ∃ μ', X9_keep_L40 n 142 (nI k) (nI g) (nI N) b m (nI v) μ = some (pck (kpP σ k g N) d v b m, μ') ∧ μ' 143 = σ ∧ FrT μ μ' := by
  intro d
  induction d with
  | zero =>
    intro v b m μ n h0 hv hn h
    obtain ⟨n, rfl⟩ : ∃ m, n = m + 1 := ⟨n - 1, by omega⟩
    refine ⟨μ, ?_, h, FrT.rf _⟩
    show X9_keep_L40B _ 142 (nI k) (nI g) (nI N) b m (nI v) μ = _
    unfold X9_keep_L40B
    rw [if_pos ((lit_le (x := 10) 10 rfl (by omega) (by omega : v < 2 ^ 31)).mpr (by omega))]
    rfl
  | succ d ih =>
    intro v b m μ n h0 hv hn h
    obtain ⟨n, rfl⟩ : ∃ m, n = m + 1 := ⟨n - 1, by omega⟩
    obtain ⟨m3, a3, s3, g3⟩ := keep40s hI hk hg hN (X9_keep_L40 n) (v := v) (by omega) b m h
    obtain ⟨m4, a4, s4, g4⟩ := ih (v + 1) (if kpP σ k g N v ≤ m then b else nI v) (if kpP σ k g N v ≤ m then m else kpP σ k g N v) m3 n (by omega) (by omega) (by omega) s3
    refine ⟨m4, ?_, s4, g3.tr g4⟩
    show X9_keep_L40B _ 142 (nI k) (nI g) (nI N) b m (nI v) μ = some ((if kpP σ k g N v ≤ m then pck (kpP σ k g N) d (v + 1) b m else pck (kpP σ k g N) d (v + 1) (nI v) (kpP σ k g N v)), m4)
    rw [a3, if_neg (fun q => absurd ((eqI (x := 0) 0 rfl (by omega) (by omega : v < 2 ^ 31)).mp q) (by omega))]
    by_cases q : kpP σ k g N v ≤ m
    · rw [if_pos q, if_pos q] at a4
      rw [if_pos q, if_pos q]
      exact a4
    · rw [if_neg q, if_neg q] at a4
      rw [if_neg q, if_neg q]
      exact a4
theorem keep40f (hI : Inv σ) (hk : k < nS σ) (hg : g < 6) (hN : N ≤ 20) (μ : Mem) {n : Nat} (hn : 20 < n) (h : μ 143 = σ) : ∃ μ', X9_keep_L40 n 142 (nI k) (nI g) (nI N) 0 0 0 μ = some (pck (kpP σ k g N) 10 0 0 (-1000000), μ') ∧ μ' 143 = σ ∧ FrT μ μ' := by
  obtain ⟨n, rfl⟩ : ∃ m, n = m + 1 := ⟨n - 1, by omega⟩
  obtain ⟨m3, a3, s3, g3⟩ := keep40s hI hk hg hN (X9_keep_L40 n) (v := 0) (by omega) 0 0 h
  obtain ⟨m4, a4, s4, g4⟩ := keep40 hI hk hg hN 9 1 (nI 0) (kpP σ k g N 0) m3 n (by omega) (by omega) (by omega) s3
  refine ⟨m4, ?_, s4, g3.tr g4⟩
  rw [pck_s (kp_ok (N := N) hI hk hg (v := 0) (by omega)).2.2.2.2]
  show X9_keep_L40B _ 142 (nI k) (nI g) (nI N) 0 0 (nI 0) μ = _
  rw [a3, if_pos (by decide)]
  exact a4
end KEEP
theorem sim_keep {μ : Mem} (h : Rel μ) (x y z : Int32) : Sm (f_X8_keep 0 x y z μ) (f_X9_keep 142 x y z) := by
  obtain ⟨h1, h2, h3⟩ := id h
  by_cases c2 : (0 : Int32) ≤ x ∧ x ≤ μ 143 0 - 1
  · by_cases c3 : (0 : Int32) ≤ y ∧ y ≤ 5
    · by_cases c1 : (1 : Int32) ≤ z ∧ z ≤ 20
      · obtain ⟨N, -, hN, e1⟩ := lit_rg 1 20 rfl rfl (by omega) (by omega) c1
        obtain ⟨k, hk, e2⟩ := h2.sh c2
        obtain ⟨g, -, hg, e3⟩ := lit_rg 0 5 rfl rfl (by omega) (by omega) c3
        obtain ⟨μ1, a1, f1⟩ := keep44 (g := g) h2 hk (by omega) hN 10 0 0 (-1000000) μ FU (by omega) (by decide) h1
        have hX : f_X8_keep 0 x y z μ = some (pck (kpP (μ 143) k g N) 10 0 0 (-1000000), μ1) := by
          unfold f_X8_keep
          simp only [Nat.zero_add]
          rw [hasShop7 h1, cal_some, b2_t c2, if_neg (by decide), isGood8, cal_some, b2_t c3, if_neg (by decide), within_eq, cal_some, b2_t c1, if_neg (by decide), e1, e2, e3]
          exact a1
        have hm : μ1 143 = μ 143 := f1.c83 143 (by omega)
        obtain ⟨μ2, b1, s2, g2⟩ := keep40f (g := g) h2 hk (by omega) hN μ1 (n := FU) (by decide) hm
        refine Sm.mk h hX (now_fr h1 h2 f1) f1.c83 h2 ⟨μ2, ?_, s2, g2.m⟩
        unfold f_X9_keep
        rw [isShop9 hm, cal_some, b2_t c2, if_neg (by decide), isGood9, cal_some, b2_t c3, if_neg (by decide), in_eq, cal_some, b2_t c1, if_neg (by decide), e1, e2, e3]
        exact b1
      · refine Sm.er h (k := 1) (by omega) ?_ (fun m e _ => ?_)
        · unfold f_X8_keep X8_keep_J28
          simp only [Nat.zero_add]
          rw [hasShop7 h1, cal_some, b2_t c2, if_neg (by decide), isGood8, cal_some, b2_t c3, if_neg (by decide), within_eq, cal_some, b2_f c1, if_pos rfl]
          exact cal_e _
        · unfold f_X9_keep X9_keep_J25
          rw [isShop9 e, cal_some, b2_t c2, if_neg (by decide), isGood9, cal_some, b2_t c3, if_neg (by decide), in_eq, cal_some, b2_f c1, if_pos rfl]
          exact cal_e _
    · refine Sm.er h (k := 1) (by omega) ?_ (fun m e _ => ?_)
      · unfold f_X8_keep X8_keep_J28
        simp only [Nat.zero_add]
        rw [hasShop7 h1, cal_some, b2_t c2, if_neg (by decide), isGood8, cal_some, b2_f c3, if_pos rfl]
        exact cal_e _
      · unfold f_X9_keep X9_keep_J25
        rw [isShop9 e, cal_some, b2_t c2, if_neg (by decide), isGood9, cal_some, b2_f c3, if_pos rfl]
        exact cal_e _
  · refine Sm.er h (k := 1) (by omega) ?_ (fun m e _ => ?_)
    · unfold f_X8_keep X8_keep_J28
      simp only [Nat.zero_add]
      rw [hasShop7 h1, cal_some, b2_f c2, if_pos rfl]
      exact cal_e _
    · unfold f_X9_keep X9_keep_J25
      rw [isShop9 e, cal_some, b2_f c2, if_pos rfl]
      exact cal_e _
end
