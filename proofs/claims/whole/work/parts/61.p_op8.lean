/-! PURE 26: what would be: range, out, walk -/
section
theorem bit01 : ∀ v, v ≤ 63 → (List.range 6).all (fun i => decide (isr (nI v) (nI i) &&& 1 = 0 ∨ isr (nI v) (nI i) &&& 1 = 1)) = true := by decide +kernel
theorem bit_or {v i : Nat} (hv : v ≤ 63) (hi : i < 6) : isr (nI v) (nI i) &&& 1 = 0 ∨ isr (nI v) (nI i) &&& 1 = 1 := of_decide_eq_true (List.all_eq_true.mp (bit01 v hv) i (List.mem_range.mpr hi))
/-- others are not kept at all -/
def kolGo (k v : Nat) : Nat → Nat → (Nat → Int32) → (Nat → Int32)
  | 0, _, σ => σ
  | d + 1, i, σ => kolGo k v d (i + 1) (if isr (nI v) (nI i) &&& 1 = 0 then upd σ (19 + 21 * k + i) 0 else σ)
theorem kol1_ok {k v i : Nat} {σ : Nat → Int32} (hI : Inv σ) (hk : k < nS σ) (hi : i < 6) : Inv (if isr (nI v) (nI i) &&& 1 = 0 then upd σ (19 + 21 * k + i) 0 else σ) ∧ nS (if isr (nI v) (nI i) &&& 1 = 0 then upd σ (19 + 21 * k + i) 0 else σ) = nS σ ∧ ∀ j, j < 16 ∨ 142 ≤ j → (if isr (nI v) (nI i) &&& 1 = 0 then upd σ (19 + 21 * k + i) 0 else σ) j = σ j := by
  have h6 := hI.n6
  by_cases q : isr (nI v) (nI i) &&& 1 = 0
  · rw [if_pos q]
    exact ⟨hI.uKeeps (by omega) hi (by unfold rg; decide), by unfold nS; rw [upd_ne (by omega)], fun j hj => upd_ne (by omega)⟩
  · rw [if_neg q]
    exact ⟨hI, rfl, fun _ _ => rfl⟩
theorem kolGo_ok {k v : Nat} : ∀ d i (σ : Nat → Int32), i + d = 6 → Inv σ → k < nS σ → Inv (kolGo k v d i σ) ∧ nS (kolGo k v d i σ) = nS σ ∧ ∀ j, j < 16 ∨ 142 ≤ j → kolGo k v d i σ j = σ j := by
  intro d
  induction d with
  | zero => intro i σ _ hI _; exact ⟨hI, rfl, fun _ _ => rfl⟩
  | succ d ih =>
    intro i σ hi hI hk
    obtain ⟨a1, a2, a3⟩ := kol1_ok (v := v) hI hk (show i < 6 by omega)
    obtain ⟨b1, b2, b3⟩ := ih (i + 1) _ (by omega) a1 (by rw [a2]; exact hk)
    exact ⟨b1, b2.trans a2, fun j hj => (b3 j hj).trans (a3 j hj)⟩
theorem keepOnly5 {w k v : Nat} : ∀ d i (μ : Mem) (σ : Nat → Int32) n, i + d = 6 → d < n → RepW μ w σ → Inv σ → k < nS σ → PW w μ (X5_keepOnly_L2 n (w + 7 + 3 * k) (nI v) (nI i) μ) 0 (kolGo k v d i σ) := by
  intro d
  induction d with
  | zero =>
    intro i μ σ n hi hn h hI hk
    obtain ⟨n, rfl⟩ : ∃ m, n = m + 1 := ⟨n - 1, by omega⟩
    refine ⟨μ, ?_, h, FrW.rf _ _⟩
    show X5_keepOnly_L2B _ (w + 7 + 3 * k) (nI v) (nI i) μ = _
    unfold X5_keepOnly_L2B
    rw [if_pos ((six_le (by omega)).mpr (by omega))]
  | succ d ih =>
    intro i μ σ n hi hn h hI hk
    obtain ⟨n, rfl⟩ : ∃ m, n = m + 1 := ⟨n - 1, by omega⟩
    have h6 := hI.n6
    obtain ⟨a1, a2, a3⟩ := kol1_ok (v := v) hI hk (show i < 6 by omega)
    show PW w μ (X5_keepOnly_L2B (X5_keepOnly_L2 n) (w + 7 + 3 * k) (nI v) (nI i) μ) 0 (kolGo k v d (i + 1) (if isr (nI v) (nI i) &&& 1 = 0 then upd σ (19 + 21 * k + i) 0 else σ))
    unfold X5_keepOnly_L2B X5_keepOnly_J23
    rw [if_neg (fun q => absurd ((six_le (by omega)).mp q) (by omega))]
    by_cases q : isr (nI v) (nI i) &&& 1 = 0
    · rw [if_pos q] at a1 a2 ⊢
      rw [if_pos q, inb_nI (by omega) (by omega), gd_t, bnd_eq, bnd_eq, clamp_nI (by omega), locB, nI_s]
      refine (ih (i + 1) _ _ n (by omega) (by omega) (wr_keeps h hI (by omega) (by omega) 0) a1 (by rw [a2]; exact hk)).go ?_
      rw [Nat.add_assoc w]
      exact FrW.ms (by omega)
    · rw [if_neg q] at a1 a2 ⊢
      rw [if_neg q, bnd_eq, nI_s]
      exact ih (i + 1) _ _ n (by omega) (by omega) h hI hk
def rgP (σ : Nat → Int32) (k N v : Nat) : Int32 := dyGo 0 N (kolGo k v 6 0 σ) (18 + 21 * k)
def pcr (P : Nat → Int32) : Nat → Nat → Int32 → Int32 → Int32
  | 0, _, b, _ => b
  | d + 1, v, b, m => if m < P v then pcr P d (v + 1) (nI v) (P v) else if P v = m then (if bcn b ≤ bcn (nI v) then pcr P d (v + 1) b m else pcr P d (v + 1) (nI v) (P v)) else pcr P d (v + 1) b m
section RANGE
variable {σ : Nat → Int32} {k N : Nat}
theorem rg_ok (hI : Inv σ) (hk : k < nS σ) (v : Nat) : Inv (kolGo k v 6 0 σ) ∧ Kp (kolGo k v 6 0 σ) (dyGo 0 N (kolGo k v 6 0 σ)) ∧ k < nS (dyGo 0 N (kolGo k v 6 0 σ)) ∧ (∀ j, 516 ≤ j → dyGo 0 N (kolGo k v 6 0 σ) j = σ j) ∧ rg (rgP σ k N v) (-999999) 999999 := by
  obtain ⟨a1, a2, a3⟩ := kolGo_ok (k := k) (v := v) 6 0 σ (by omega) hI hk
  have kp := dyGo_kp (L := 0) N _ a1
  have hk' : k < nS (dyGo 0 N (kolGo k v 6 0 σ)) := by
    rw [kp.2.1, a2]
    exact hk
  exact ⟨a1, kp, hk', fun j hj => by rw [kp.hi j hj, a3 j (by omega)], (kp.1.shop k hk').2.2.1⟩
theorem range35 (hI : Inv σ) (hk : k < nS σ) (hN : N ≤ 5) : ∀ d v (b m : Int32) (μ : Mem) n, v + d = 64 → d < n → rg b 0 63 → RepW μ 1 σ → ∃ μ', X8_range_L35 n 0 (nI k) (nI N) b m (nI v) μ = some (pcr (rgP σ k N) d v b m, μ') ∧ FrW 83 μ μ' := by
  have h6 := hI.n6
  intro d
  induction d with
  | zero =>
    intro v b m μ n hv hn hb h
    obtain ⟨n, rfl⟩ : ∃ m, n = m + 1 := ⟨n - 1, by omega⟩
    refine ⟨μ, ?_, FrW.rf _ _⟩
    show X8_range_L35B _ 0 (nI k) (nI N) b m (nI v) μ = _
    unfold X8_range_L35B
    rw [if_pos ((lit_lt (x := 63) 63 rfl (by omega) (by omega : v < 2 ^ 31)).mpr (by omega))]
    rfl
  | succ d ih =>
    intro v b m μ n hv hn hb h
    obtain ⟨n, rfl⟩ : ∃ m, n = m + 1 := ⟨n - 1, by omega⟩
    obtain ⟨i1, kp, hk', -, -⟩ := rg_ok (N := N) hI hk v
    have hv63 : rg (nI v) 0 63 := nI_rg (n := 63) (by omega) (by omega)
    obtain ⟨m1, a1, r1, f1⟩ := trial7 h hI
    obtain ⟨m2, a2, r2, f2⟩ := keepOnly5 (w := 83) (k := k) (v := v) 6 0 m1 σ FU (by omega) (by decide) r1 hI hk
    obtain ⟨m3, a3, r3, f3⟩ := pass7 (w := 83) (N := N) (by omega) 0 r2 i1
    have pd := rd_purse r3 kp.1 hk'
    have ff := (f1.tr f2).tr f3
    obtain ⟨mS, bS, fS⟩ := ih (v + 1) b m m3 n (by omega) (by omega) hb (now_fr h hI ff)
    obtain ⟨mT, bT, fT⟩ := ih (v + 1) (nI v) (rgP σ k N v) m3 n (by omega) (by omega) hv63 (now_fr h hI ff)
    have key : X8_range_L35B (X8_range_L35 n) 0 (nI k) (nI N) b m (nI v) μ = (if m < rgP σ k N v then X8_range_L35 n 0 (nI k) (nI N) (nI v) (rgP σ k N v) (nI (v + 1)) m3 else if rgP σ k N v = m then (if bcn b ≤ bcn (nI v) then X8_range_L35 n 0 (nI k) (nI N) b m (nI (v + 1)) m3 else X8_range_L35 n 0 (nI k) (nI N) (nI v) (rgP σ k N v) (nI (v + 1)) m3) else X8_range_L35 n 0 (nI k) (nI N) b m (nI (v + 1)) m3) := by
      unfold X8_range_L35B f_X5_keepOnly
      simp only [Nat.zero_add]
      rw [if_neg (fun q => absurd ((lit_lt (x := 63) 63 rfl (by omega) (by omega : v < 2 ^ 31)).mp q) (by omega)), a1, cal_some, inb_nI (by omega) (by omega), gd_t, clamp_nI (by omega), locA]
      have a2' : X5_keepOnly_L2 FU (83 + 7 + 3 * k) (nI v) 0 m1 = some (0, m2) := a2
      rw [a2', cal_some, a3, cal_some, gd_t, bnd_eq, bitCount6 hv63, cal_some, bitCount6 hb, cal_some, pd]
      unfold X8_range_J107 X8_range_J128 X8_range_J135
      rw [bnd_eq, bnd_eq, nI_s]
      show (if bcn b ≤ bcn (nI v) then (if m < rgP σ k N v then X8_range_L35 n 0 (nI k) (nI N) (nI v) (rgP σ k N v) (nI (v + 1)) m3 else if rgP σ k N v = m then X8_range_L35 n 0 (nI k) (nI N) b m (nI (v + 1)) m3 else X8_range_L35 n 0 (nI k) (nI N) b m (nI (v + 1)) m3) else (if m < rgP σ k N v then X8_range_L35 n 0 (nI k) (nI N) (nI v) (rgP σ k N v) (nI (v + 1)) m3 else if rgP σ k N v = m then X8_range_L35 n 0 (nI k) (nI N) (nI v) (rgP σ k N v) (nI (v + 1)) m3 else X8_range_L35 n 0 (nI k) (nI N) b m (nI (v + 1)) m3)) = _
      by_cases q : bcn b ≤ bcn (nI v)
      · rw [if_pos q, if_pos q]
      · rw [if_neg q, if_neg q]
    show ∃ μ', X8_range_L35B (X8_range_L35 n) 0 (nI k) (nI N) b m (nI v) μ = some ((if m < rgP σ k N v then pcr (rgP σ k N) d (v + 1) (nI v) (rgP σ k N v) else if rgP σ k N v = m then (if bcn b ≤ bcn (nI v) then pcr (rgP σ k N) d (v + 1) b m else pcr (rgP σ k N) d (v + 1) (nI v) (rgP σ k N v)) else pcr (rgP σ k N) d (v + 1) b m), μ') ∧ FrW 83 μ μ'
    rw [key]
    by_cases q1 : m < rgP σ k N v
    · rw [if_pos q1, if_pos q1]
      exact ⟨mT, bT, ff.tr fT⟩
    · rw [if_neg q1, if_neg q1]
      by_cases q2 : rgP σ k N v = m
      · rw [if_pos q2, if_pos q2]
        by_cases q3 : bcn b ≤ bcn (nI v)
        · rw [if_pos q3, if_pos q3]
          exact ⟨mS, bS, ff.tr fS⟩
        · rw [if_neg q3, if_neg q3]
          exact ⟨mT, bT, ff.tr fT⟩
      · rw [if_neg q2, if_neg q2]
        exact ⟨mS, bS, ff.tr fS⟩
theorem purse14 {v : Nat} (hv : v ≤ 63) (hN : N ≤ 5) {σ0 : Nat → Int32} : ∀ d i (μ : Mem) (σ : Nat → Int32) n, i + d = 6 → d < n → μ 143 = σ → Inv σ → k < nS σ → Put μ σ0 → (∀ j, 516 ≤ j → σ j = σ0 j) → ∃ μ', X9_purseBy_L14 n 142 (nI k) (nI v) (nI N) (nI i) μ = some (dyGo 0 N (kolGo k v d i σ) (18 + 21 * k), μ') ∧ μ' 143 = σ0 ∧ FrT μ μ' := by
  intro d
  induction d with
  | zero =>
    intro i μ σ n hi hn h hI hk hp ho
    obtain ⟨n, rfl⟩ : ∃ m, n = m + 1 := ⟨n - 1, by omega⟩
    have h6 := hI.n6
    have kp := dyGo_kp (L := 0) N _ hI
    obtain ⟨m3, a3, s3, g3⟩ := go9 (N := N) (by omega) h hI
    refine ⟨sR m3 143 σ0, ?_, sR_same _ _ _, g3.t.tr (FrT.s _ _)⟩
    show X9_purseBy_L14B _ 142 (nI k) (nI v) (nI N) (nI i) μ = _
    unfold X9_purseBy_L14B
    rw [if_pos ((six_le (by omega)).mpr (by omega)), a3, cal_some, its9_2 (by omega), cal_some, carryB (hp.fr g3) (fun j hj => by rw [s3, kp.hi j hj, ho j hj]), cal_some, s3]
    rfl
  | succ d ih =>
    intro i μ σ n hi hn h hI hk hp ho
    obtain ⟨n, rfl⟩ : ∃ m, n = m + 1 := ⟨n - 1, by omega⟩
    have h6 := hI.n6
    obtain ⟨a1, a2, a3⟩ := kol1_ok (v := v) hI hk (show i < 6 by omega)
    show ∃ μ', X9_purseBy_L14B (X9_purseBy_L14 n) 142 (nI k) (nI v) (nI N) (nI i) μ = some (dyGo 0 N (kolGo k v d (i + 1) (if isr (nI v) (nI i) &&& 1 = 0 then upd σ (19 + 21 * k + i) 0 else σ)) (18 + 21 * k), μ') ∧ μ' 143 = σ0 ∧ FrT μ μ'
    unfold X9_purseBy_L14B X9_purseBy_J50
    rw [if_neg (fun q => absurd ((six_le (by omega)).mp q) (by omega))]
    by_cases q : isr (nI v) (nI i) &&& 1 = 0
    · rw [if_pos q] at a1 a2 a3 ⊢
      rw [if_neg (fun e => absurd (q.symm.trans e) (by decide)), lays9_k (by omega) (by omega), cal_some, bnd_eq, nI_s, h]
      obtain ⟨m, b, c, e⟩ := ih (i + 1) (sR μ 143 (upd σ (19 + 21 * k + i) 0)) _ n (by omega) (by omega) (sR_same _ _ _) a1 (by rw [a2]; exact hk) (hp.s _) (fun j hj => (a3 j (by omega)).trans (ho j hj))
      exact ⟨m, b, c, (FrT.s _ _).tr e⟩
    · rw [if_neg q] at a1 a2 a3 ⊢
      rw [if_pos ((bit_or hv (by omega)).resolve_left q), its9_k (by omega) (by omega), cal_some, lays9_k (by omega) (by omega), cal_some, bnd_eq, nI_s, upd_id, sR_id]
      exact ih (i + 1) μ σ n (by omega) (by omega) h hI hk hp ho
theorem purseBy9 (hI : Inv σ) (hk : k < nS σ) (hN : N ≤ 5) {v : Nat} (hv : v ≤ 63) {μ : Mem} (h : μ 143 = σ) : ∃ μ', f_X9_purseBy 142 (nI k) (nI v) (nI N) μ = some (rgP σ k N v, μ') ∧ μ' 143 = σ ∧ FrT μ μ' := by
  obtain ⟨m1, a1, s1, p1, g1⟩ := carryS h
  obtain ⟨m2, a2, s2, g2⟩ := purse14 (k := k) hv hN 6 0 m1 σ FU (by omega) (by decide) s1 hI hk p1 (fun _ _ => rfl)
  refine ⟨m2, ?_, s2, g1.tr g2⟩
  unfold f_X9_purseBy
  rw [a1, cal_some]
  exact a2
theorem range37 (hI : Inv σ) (hk : k < nS σ) (hN : N ≤ 5) : ∀ d v (b m : Int32) (μ : Mem) n, v + d = 64 → d < n → rg b 0 63 → μ 143 = σ → ∃ μ', X9_range_L37 n 142 (nI k) (nI N) b m (nI v) μ = some (pcr (rgP σ k N) d v b m, μ') ∧ μ' 143 = σ ∧ FrT μ μ' := by
  intro d
  induction d with
  | zero =>
    intro v b m μ n hv hn hb h
    obtain ⟨n, rfl⟩ : ∃ m, n = m + 1 := ⟨n - 1, by omega⟩
    refine ⟨μ, ?_, h, FrT.rf _⟩
    show X9_range_L37B _ 142 (nI k) (nI N) b m (nI v) μ = _
    unfold X9_range_L37B
    rw [if_pos ((lit_le (x := 64) 64 rfl (by omega) (by omega : v < 2 ^ 31)).mpr (by omega))]
    rfl
  | succ d ih =>
    intro v b m μ n hv hn hb h
    obtain ⟨n, rfl⟩ : ∃ m, n = m + 1 := ⟨n - 1, by omega⟩
    have hv63 : rg (nI v) 0 63 := nI_rg (n := 63) (by omega) (by omega)
    obtain ⟨m3, a3, s3, g3⟩ := purseBy9 hI hk hN (v := v) (by omega) h
    obtain ⟨mS, bS, sS, fS⟩ := ih (v + 1) b m m3 n (by omega) (by omega) hb s3
    obtain ⟨mT, bT, sT, fT⟩ := ih (v + 1) (nI v) (rgP σ k N v) m3 n (by omega) (by omega) hv63 s3
    show ∃ μ', X9_range_L37B (X9_range_L37 n) 142 (nI k) (nI N) b m (nI v) μ = some ((if m < rgP σ k N v then pcr (rgP σ k N) d (v + 1) (nI v) (rgP σ k N v) else if rgP σ k N v = m then (if bcn b ≤ bcn (nI v) then pcr (rgP σ k N) d (v + 1) b m else pcr (rgP σ k N) d (v + 1) (nI v) (rgP σ k N v)) else pcr (rgP σ k N) d (v + 1) b m), μ') ∧ μ' 143 = σ ∧ FrT μ μ'
    unfold X9_range_L37B X9_range_J80 X9_range_J87
    rw [if_neg (fun q => absurd ((lit_le (x := 64) 64 rfl (by omega) (by omega : v < 2 ^ 31)).mp q) (by omega)), a3, cal_some, bnd_eq, bnd_eq, nI_s, bitsOf9 hv63, cal_some, bitsOf9 hb, cal_some]
    by_cases q1 : m < rgP σ k N v
    · rw [if_pos q1, if_pos q1]
      exact ⟨mT, bT, sT, g3.tr fT⟩
    · rw [if_neg q1, if_neg q1]
      by_cases q2 : rgP σ k N v = m
      · rw [if_pos q2, if_pos q2]
        by_cases q3 : bcn b ≤ bcn (nI v)
        · rw [if_pos q3, if_pos q3]
          exact ⟨mS, bS, sS, g3.tr fS⟩
        · rw [if_neg q3, if_neg q3]
          exact ⟨mT, bT, sT, g3.tr fT⟩
      · rw [if_neg q2, if_neg q2]
        exact ⟨mS, bS, sS, g3.tr fS⟩
end RANGE
theorem sim_range {μ : Mem} (h : Rel μ) (x y : Int32) : Sm (f_X8_range 0 x y μ) (f_X9_range 142 x y) := by
  obtain ⟨h1, h2, h3⟩ := id h
  by_cases c2 : (0 : Int32) ≤ x ∧ x ≤ μ 143 0 - 1
  · by_cases c1 : (1 : Int32) ≤ y ∧ y ≤ 5
    · obtain ⟨N, -, hN, e1⟩ := lit_rg 1 5 rfl rfl (by omega) (by omega) c1
      obtain ⟨k, hk, e2⟩ := h2.sh c2
      have z63 : rg (0 : Int32) 0 63 := by unfold rg; decide
      obtain ⟨μ1, a1, f1⟩ := range35 h2 hk hN 64 0 0 (-1000000) μ FU (by omega) (by decide) z63 h1
      have hX : f_X8_range 0 x y μ = some (pcr (rgP (μ 143) k N) 64 0 0 (-1000000), μ1) := by
        unfold f_X8_range
        simp only [Nat.zero_add]
        rw [hasShop7 h1, cal_some, b2_t c2, if_neg (by decide), within_eq, cal_some, b2_t c1, if_neg (by decide), e1, e2]
        exact a1
      have hm : μ1 143 = μ 143 := f1.c83 143 (by omega)
      obtain ⟨μ2, b1, s2, g2⟩ := purseBy9 h2 hk hN (v := 0) (by omega) hm
      obtain ⟨μ3, b3, s3, g3⟩ := range37 h2 hk hN 63 1 0 (rgP (μ 143) k N 0) μ2 FU (by omega) (by decide) z63 s2
      refine Sm.mk h hX (now_fr h1 h2 f1) f1.c83 h2 ⟨μ3, ?_, s3, (g2.tr g3).m⟩
      have hp : pcr (rgP (μ 143) k N) 64 0 0 (-1000000) = pcr (rgP (μ 143) k N) 63 1 0 (rgP (μ 143) k N 0) := if_pos (Int32.not_le.mp (low_purse (rg_ok (N := N) h2 hk 0).2.2.2.2))
      have b1' : f_X9_purseBy 142 (nI k) 0 (nI N) μ1 = some (rgP (μ 143) k N 0, μ2) := b1
      unfold f_X9_range
      rw [isShop9 hm, cal_some, b2_t c2, if_neg (by decide), in_eq, cal_some, b2_t c1, if_neg (by decide), e1, e2, b1', cal_some, hp]
      exact b3
    · refine Sm.er h (k := 1) (by omega) ?_ (fun m e _ => ?_)
      · unfold f_X8_range X8_range_J20
        simp only [Nat.zero_add]
        rw [hasShop7 h1, cal_some, b2_t c2, if_neg (by decide), within_eq, cal_some, b2_f c1, if_pos rfl]
        exact cal_e _
      · unfold f_X9_range X9_range_J17
        rw [isShop9 e, cal_some, b2_t c2, if_neg (by decide), in_eq, cal_some, b2_f c1, if_pos rfl]
        exact cal_e _
  · refine Sm.er h (k := 1) (by omega) ?_ (fun m e _ => ?_)
    · unfold f_X8_range X8_range_J20
      simp only [Nat.zero_add]
      rw [hasShop7 h1, cal_some, b2_f c2, if_pos rfl]
      exact cal_e _
    · unfold f_X9_range X9_range_J17
      rw [isShop9 e, cal_some, b2_f c2, if_pos rfl]
      exact cal_e _
end
