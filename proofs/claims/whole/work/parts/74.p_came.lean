/-! PURE 39: who must have come -/
section
theorem orb : ∀ c, c < 10 → ∀ G, G < 2 ^ c → nI G ||| isl 1 (nI c) = nI (2 ^ c + G) := by decide +kernel
theorem andK : ∀ C, C ≤ 10 → ∀ G, G < 2 ^ C → nI (2 ^ C - 1) &&& nI G = nI G := by decide +kernel
theorem islC : ∀ C, C ≤ 10 → isl 1 (nI C) = nI (2 ^ C) := by decide +kernel
theorem tb_all : (List.range 1024).all (fun S => (List.range 10).all (fun c => decide ((isr (nI S) (nI c) &&& 1 = 1) ↔ S.testBit c = true))) = true := by decide +kernel
theorem tb {S c : Nat} (hS : S < 1024) (hc : c < 10) : (isr (nI S) (nI c) &&& 1 = 1) ↔ S.testBit c = true := of_decide_eq_true (List.all_eq_true.mp (List.all_eq_true.mp tb_all S (List.mem_range.mpr hS)) c (List.mem_range.mpr hc))
theorem p1024 {c : Nat} (h : c ≤ 10) : 2 ^ c ≤ 1024 := Nat.pow_le_pow_right (n := 2) (by omega) h
theorem stC_b {P : Nat → Bool} {a : AC} {G : Nat} (hG : G < 1024) (h2 : a.2.1 < 1024) : (stC P a G).1 ≤ a.1 + 1 ∧ (stC P a G).2.1 < 1024 := by
  unfold stC
  split
  · refine ⟨Nat.le_refl _, ?_⟩
    show (if a.1 = 0 then G else min a.2.1 G) < 1024
    split
    · exact hG
    · exact Nat.lt_of_le_of_lt (Nat.min_le_right _ _) hG
  · exact ⟨by omega, h2⟩
theorem try3 {s : Nat} {f σ : Nat → Int32} (hI : Inv σ) (hs : s < nS σ) {P : Nat → Bool} (hP : ∀ G, P G = true ↔ ∀ g, g < 6 → vP σ G (nC σ) (25 + 21 * s + g) = f g) : ∀ d c G (μ : Mem) (τ : Nat → Int32) (a : AC) n, c + d = nC σ → d < n → G < 2 ^ c → SC s f μ a → RepW μ 83 τ → Inv τ → eqP τ (vP σ G c) → a.1 + 2 ^ d ≤ 1024 → a.2.1 < 1024 → ∃ μ' τ', f_X3_tryFrom n 130 83 (nI c) (nI G) μ = some (0, μ') ∧ SC s f μ' ((lst d c G).foldl (stC P) a) ∧ RepW μ' 83 τ' ∧ Inv τ' ∧ eqP τ' (vP σ G c) ∧ FrS μ μ' ∧ (∀ j, j < 36 * c → μ' 132 j = μ 132 j) ∧ ((lst d c G).foldl (stC P) a).1 ≤ a.1 + 2 ^ d ∧ ((lst d c G).foldl (stC P) a).2.1 < 1024 := by
  have h10 := hI.c10
  have h6 := hI.n6
  intro d
  induction d with
  | zero =>
    intro c G μ τ a n hc hn hG hS h hJ he ha ha2
    obtain ⟨n, rfl⟩ : ∃ m, n = m + 1 := ⟨n - 1, by omega⟩
    have hcc : c = nC σ := by omega
    have kp := vP_kp hI G c (by omega)
    have hGk := p1024 (c := c) (by omega)
    have hns : nS τ = nS σ := (eqP_n he).trans kp.2.1
    have hnc : nC τ = nC σ := (eqP_c he).trans kp.2.2.1
    obtain ⟨m1, a1, a2, a3⟩ := judgeSet3 hS h hJ (s := s) (by omega) (G := G) (by omega) (by omega) ha2 (P := P) (by rw [hP G, ← hcc]; exact ⟨fun q g hg => by rw [eqP_s he hg]; exact q g hg, fun q g hg => by rw [← eqP_s he hg]; exact q g hg⟩)
    have hb := stC_b (P := P) (a := a) (G := G) (by omega) ha2
    refine ⟨m1, τ, ?_, a2, h.fr hJ (fun l x y => a3 l (by omega)), hJ, he, fun l x y z => a3 l y, fun j _ => by rw [a3 132 (by omega)], hb.1, hb.2⟩
    have hno : ¬ ((0 : Int32) ≤ nI c ∧ nI c ≤ τ 1 - 1) := by
      intro q
      obtain ⟨k, hk, e⟩ := hJ.cu q
      have := nI_inj e (by omega) (by omega)
      omega
    show f_X3_tryFrom_B _ 130 83 (nI c) (nI G) μ = _
    unfold f_X3_tryFrom_B
    rw [hasCust7 h, cal_some, b2_f hno, if_pos rfl, a1, cal_some]
  | succ d ih =>
    intro c G μ τ a n hc hn hG hS h hJ he ha ha2
    obtain ⟨n, rfl⟩ : ∃ m, n = m + 1 := ⟨n - 1, by omega⟩
    have hcl : c < nC σ := by omega
    have hp2 : 2 ^ (d + 1) = 2 * 2 ^ d := by rw [Nat.pow_succ, Nat.mul_comm]
    have hpc : 2 ^ (c + 1) = 2 * 2 ^ c := by rw [Nat.pow_succ, Nat.mul_comm]
    have kp := vP_kp hI G c (by omega)
    have hnc : nC τ = nC σ := (eqP_c he).trans kp.2.2.1
    have hyes : (0 : Int32) ≤ nI c ∧ nI c ≤ τ 1 - 1 := by rw [hJ.s1, hnc]; exact up_in hcl (by omega)
    obtain ⟨μ1, τ1, x1, x2, x3, x4, x5, x6, x7, x8, x9⟩ := ih (c + 1) G μ τ a n (by omega) (by omega) (by omega) hS h hJ (by rw [vP_no σ hG]; exact he) (by omega) ha2
    rw [vP_no σ hG] at x5
    have hns1 : nS τ1 = nS σ := (eqP_n x5).trans kp.2.1
    have hnc1 : nC τ1 = nC σ := (eqP_c x5).trans kp.2.2.1
    obtain ⟨μ2, y1, y2, y3, y4⟩ := save27 (f_X3_tryFrom n) (c := c) (N := nS σ) (by omega) h6 (nI G) (nS σ) 0 μ1 FU (by omega) (by rw [FU_eq]; omega) (by rw [rd_n x3, x4.s0, hns1])
    have r2 : RepW μ2 83 τ1 := x3.fr x4 (fun l p q => y2 l (by omega))
    obtain ⟨μ3, z1, z2, z3⟩ := goAlong7 r2 x4 (c := c) (by omega)
    have kv := vis_kp x4 (c := c) (by omega)
    have hev : eqP (vis τ1 c).1 (vP σ (2 ^ c + G) (c + 1)) := by
      rw [vP_yes σ hG]
      exact vis_P x5 x4 (by omega)
    have sc3 : SC s f μ3 ((lst d (c + 1) G).foldl (stC P) a) := x2.fr (by rw [z3 130 (by omega), y2 130 (by omega)]) (by rw [z3 131 (by omega), y2 131 (by omega)])
    obtain ⟨μ4, τ4, u1, u2, u3, u4, u5, u6, u7, u8, u9⟩ := ih (c + 1) (2 ^ c + G) μ3 _ _ n (by omega) (by omega) (by omega) sc3 z2 kv.1 hev (by omega) x9
    have hns4 : nS τ4 = nS σ := (eqP_n u5).trans (vP_kp hI (2 ^ c + G) (c + 1) (by omega)).2.1
    obtain ⟨⟨μ5, v1, v2, v3⟩, v4⟩ := rest90 (f_X3_tryFrom n) (c := c) (N := nS σ) (by omega) x4 hns1 (nS σ) 0 μ4 τ4 FU (by omega) (by rw [FU_eq]; omega) u3 u4 hns4 (fun k hk g hg => by
      rw [u7 _ (by omega), z3 132 (by omega), y4 k (by omega) hk g hg]
      exact rd_stock x3 x4 (by omega) hg)
    refine ⟨μ5, rsG τ1 (nS σ) 0 τ4, ?_, ?_, v2, v4, ?_, ?_, fun j hj => ?_, ?_, ?_⟩
    · show f_X3_tryFrom_B _ 130 83 (nI c) (nI G) μ = _
      unfold f_X3_tryFrom_B
      rw [hasCust7 h, cal_some, b2_t hyes, if_neg (by decide), nI_s, x1, cal_some]
      refine Eq.trans y1 ?_
      rw [z1, cal_some, orb c (by omega) G hG, u1, cal_some]
      exact v1
    · show SC s f μ5 ((lst d (c + 1) G ++ lst d (c + 1) (2 ^ c + G)).foldl (stC P) a)
      rw [List.foldl_append]
      exact u2.fr (v3 130 (by omega)) (v3 131 (by omega))
    · intro i hi
      by_cases q : stx (nS σ) i
      · obtain ⟨k, g, hk, hg, rfl⟩ := q
        rw [rsG_in τ1 hg (nS σ) 0 τ4 (Or.inl (by omega))]
        exact x5 _ hi
      · rcases rsG_at τ1 (nS σ) 0 τ4 i with e | e
        · rw [e]
          exact x5 i hi
        · rw [e, u5 i hi, vP_yes σ hG]
          exact vis_O kp.1 (by rw [kp.2.2.1]; omega) hi (by rw [kp.2.1]; exact q)
    · intro l p q r
      rw [v3 l (by omega), u6 l p q r, z3 l (by omega), y2 l r, x6 l p q r]
    · rw [v3 132 (by omega), u7 j (by omega), z3 132 (by omega), y3 j (by omega), x7 j (by omega)]
    · show ((lst d (c + 1) G ++ lst d (c + 1) (2 ^ c + G)).foldl (stC P) a).1 ≤ _
      rw [List.foldl_append]
      omega
    · show ((lst d (c + 1) G ++ lst d (c + 1) (2 ^ c + G)).foldl (stC P) a).2.1 < 1024
      rw [List.foldl_append]
      exact u9
section LV
variable {σ f : Nat → Int32} {k s : Nat}
theorem lv14 (hI : Inv σ) {S : Nat} (hS : S < 1024) : ∀ d c (μ : Mem) n, c + d = nC σ → d < n → μ 143 = vP σ S c → ∃ μ', X9_leaves_L14 n 142 (nI k) (nI s) (nI S) (nI c) μ = X9_leaves_L59 FU 142 (nI k) (nI s) 1 0 μ' ∧ μ' 143 = vP σ S (nC σ) ∧ FrG μ μ' := by
  have h10 := hI.c10
  intro d
  induction d with
  | zero =>
    intro c μ n hc hn h
    obtain ⟨n, rfl⟩ : ∃ m, n = m + 1 := ⟨n - 1, by omega⟩
    have hcc : c = nC σ := by omega
    have kp := vP_kp hI S c (by omega)
    refine ⟨μ, ?_, by rw [h, hcc], FrG.rf _⟩
    show X9_leaves_L14B _ 142 (nI k) (nI s) (nI S) (nI c) μ = _
    unfold X9_leaves_L14B
    rw [show inb (1 : Int32) 516 = true from by decide, gd_t, ix143 h, z1, kp.1.s1, kp.2.2.1, if_pos ((nI_leq (by omega) (by omega)).mpr (by omega))]
  | succ d ih =>
    intro c μ n hc hn h
    obtain ⟨n, rfl⟩ : ∃ m, n = m + 1 := ⟨n - 1, by omega⟩
    have kp := vP_kp hI S c (by omega)
    have hh : X9_leaves_L14 (n + 1) 142 (nI k) (nI s) (nI S) (nI c) μ = if isr (nI S) (nI c) &&& 1 = 1 then cal (f_X9_visits 142 (nI c) μ) (fun r1 m2 => X9_leaves_L14 n 142 (nI k) (nI s) (nI S) (nI (c + 1)) m2) else X9_leaves_L14 n 142 (nI k) (nI s) (nI S) (nI (c + 1)) μ := by
      show X9_leaves_L14B _ 142 (nI k) (nI s) (nI S) (nI c) μ = _
      unfold X9_leaves_L14B X9_leaves_J45
      rw [show inb (1 : Int32) 516 = true from by decide, gd_t, ix143 h, z1, kp.1.s1, kp.2.2.1, if_neg (fun q => absurd ((nI_leq (by omega) (by omega)).mp q) (by omega))]
      simp only [bnd_eq, nI_s]
    by_cases b : S.testBit c = true
    · obtain ⟨m1, a1, a2, a3⟩ := visits9 h kp.1 (c := c) (by rw [kp.2.2.1]; omega)
      obtain ⟨m2, b1, b2, b3⟩ := ih (c + 1) m1 n (by omega) (by omega) (by
        rw [a2]
        show _ = if S.testBit c = true then (vis (vP σ S c) c).1 else vP σ S c
        rw [if_pos b])
      refine ⟨m2, ?_, b2, a3.tr b3⟩
      rw [hh, if_pos ((tb hS (by omega)).mpr b), a1, cal_some]
      exact b1
    · obtain ⟨m2, b1, b2, b3⟩ := ih (c + 1) μ n (by omega) (by omega) (by
        rw [h]
        show _ = if S.testBit c = true then (vis (vP σ S c) c).1 else vP σ S c
        rw [if_neg b])
      refine ⟨m2, ?_, b2, b3⟩
      rw [hh, if_neg (fun q => b ((tb hS (by omega)).mp q))]
      exact b1
theorem lv59_0 {σ0 : Nat → Int32} {μ : Mem} (hp : Put μ σ0) (ho : ∀ j, 516 ≤ j → μ 143 j = σ0 j) : ∀ d g n, g + d = 6 → d < n → X9_leaves_L59 n 142 (nI k) (nI s) 0 (nI g) μ = some (0, sR μ 143 σ0) := by
  intro d
  induction d with
  | zero =>
    intro g n hg hn
    obtain ⟨n, rfl⟩ : ∃ m, n = m + 1 := ⟨n - 1, by omega⟩
    show X9_leaves_L59B _ 142 (nI k) (nI s) 0 (nI g) μ = _
    unfold X9_leaves_L59B
    rw [if_pos ((six_le (by omega)).mpr (by omega)), carryB hp ho, cal_some]
    rfl
  | succ d ih =>
    intro g n hg hn
    obtain ⟨n, rfl⟩ : ∃ m, n = m + 1 := ⟨n - 1, by omega⟩
    show X9_leaves_L59B _ 142 (nI k) (nI s) 0 (nI g) μ = _
    unfold X9_leaves_L59B X9_leaves_J100 X9_leaves_J101
    rw [if_neg (fun q => absurd ((six_le (by omega)).mp q) (by omega)), if_pos rfl, bnd_eq, nI_s]
    exact ih (g + 1) n (by omega) (by omega)
theorem lv59 {σ0 : Nat → Int32} {μ : Mem} (hk : k < 4) (hs : s < 6) (hf : ∀ g, g < 6 → μ 153 (24 * k + g) = f g) (hp : Put μ σ0) (ho : ∀ j, 516 ≤ j → μ 143 j = σ0 j) : ∀ d g n, g + d = 6 → d < n → ((∀ j, g ≤ j → j < 6 → μ 143 (25 + 21 * s + j) = f j) → X9_leaves_L59 n 142 (nI k) (nI s) 1 (nI g) μ = some (1, sR μ 143 σ0)) ∧ ((∃ j, g ≤ j ∧ j < 6 ∧ ¬ μ 143 (25 + 21 * s + j) = f j) → X9_leaves_L59 n 142 (nI k) (nI s) 1 (nI g) μ = some (0, sR μ 143 σ0)) := by
  intro d
  induction d with
  | zero =>
    intro g n hg hn
    obtain ⟨n, rfl⟩ : ∃ m, n = m + 1 := ⟨n - 1, by omega⟩
    refine ⟨fun _ => ?_, fun ⟨j, a, b, _⟩ => by omega⟩
    show X9_leaves_L59B _ 142 (nI k) (nI s) 1 (nI g) μ = _
    unfold X9_leaves_L59B
    rw [if_pos ((six_le (by omega)).mpr (by omega)), carryB hp ho, cal_some]
    rfl
  | succ d ih =>
    intro g n hg hn
    obtain ⟨n, rfl⟩ : ∃ m, n = m + 1 := ⟨n - 1, by omega⟩
    have hh : X9_leaves_L59 (n + 1) 142 (nI k) (nI s) 1 (nI g) μ = if μ 143 (25 + 21 * s + g) = f g then X9_leaves_L59 n 142 (nI k) (nI s) 1 (nI (g + 1)) μ else X9_leaves_L59 n 142 (nI k) (nI s) 0 (nI (g + 1)) μ := by
      show X9_leaves_L59B _ 142 (nI k) (nI s) 1 (nI g) μ = _
      unfold X9_leaves_L59B X9_leaves_J100 X9_leaves_J101
      rw [if_neg (fun q => absurd ((six_le (by omega)).mp q) (by omega)), if_neg (by decide), its9_s hs (by omega), cal_some, i24, inb_nI (by omega) (by omega), gd_t, clamp_nI (by omega), show (142 + 11 : Nat) = 153 from rfl, hf g (by omega), bnd_eq, bnd_eq, nI_s]
    obtain ⟨i1, i2⟩ := ih (g + 1) n (by omega) (by omega)
    refine ⟨fun h => ?_, fun ⟨j, a, b, e⟩ => ?_⟩
    · rw [hh, if_pos (h g (by omega) (by omega))]
      exact i1 (fun j a b => h j (by omega) b)
    · rw [hh]
      by_cases c : μ 143 (25 + 21 * s + g) = f g
      · rw [if_pos c]
        refine i2 ⟨j, ?_, b, e⟩
        rcases Nat.lt_or_ge g j with q | q
        · exact q
        · exact absurd (by rw [show j = g by omega]; exact c) e
      · rw [if_neg c]
        exact lv59_0 hp ho d (g + 1) n (by omega) (by omega)
theorem leaves9 (hI : Inv σ) (hk : k < 4) (hs : s < 6) {P : Nat → Bool} (hP : ∀ G, P G = true ↔ ∀ g, g < 6 → vP σ G (nC σ) (25 + 21 * s + g) = f g) {S : Nat} (hS : S < 1024) {μ : Mem} (h : μ 143 = σ) (hf : ∀ g, g < 6 → μ 153 (24 * k + g) = f g) : ∃ μ', f_X9_leaves 142 (nI k) (nI s) (nI S) μ = some (b2 (P S = true), μ') ∧ μ' 143 = σ ∧ FrT μ μ' := by
  have h10 := hI.c10
  obtain ⟨m1, a1, a2, a3, a4⟩ := carryS h
  obtain ⟨m2, b1, b2', b3⟩ := lv14 (k := k) (s := s) hI hS (nC σ) 0 m1 FU (by omega) (by rw [FU_eq]; omega) a2
  have kp := vP_kp hI S (nC σ) (by omega)
  have hf2 : ∀ g, g < 6 → m2 153 (24 * k + g) = f g := fun g hg => by rw [b3 153 (by omega) (by omega) (by omega), a4 153 (by omega) (by omega) (by omega) (by omega)]; exact hf g hg
  obtain ⟨c1, c2⟩ := lv59 hk hs hf2 (a3.fr b3) (fun j hj => by rw [b2']; exact kp.hi j hj) 6 0 FU (by omega) (by decide)
  refine ⟨sR m2 143 σ, ?_, sR_same _ _ _, (a4.tr b3.t).tr (FrT.s _ _)⟩
  unfold f_X9_leaves
  rw [a1, cal_some]
  refine Eq.trans b1 ?_
  by_cases q : P S = true
  · rw [b2_t q]
    exact c1 (fun j _ hj => by rw [b2']; exact (hP S).mp q j hj)
  · rw [b2_f q]
    refine c2 (Classical.byContradiction (fun hn => q ((hP S).mpr (fun g hg => Classical.byContradiction (fun hq => hn ⟨g, by omega, hg, ?_⟩)))))
    rw [b2']
    exact hq
theorem acc_inv (P : Nat → Bool) {K : Int32} {B : Nat} (hK : ∀ G, G < B → K &&& nI G = nI G) : ∀ t, t ≤ B → ((List.range t).foldl (stC P) (0, 0, -1, 0)).1 ≤ t ∧ (¬ ((List.range t).foldl (stC P) (0, 0, -1, 0)).1 = 0 → ((List.range t).foldl (stC P) (0, 0, -1, 0)).2.1 < t ∧ K &&& ((List.range t).foldl (stC P) (0, 0, -1, 0)).2.2.1 = ((List.range t).foldl (stC P) (0, 0, -1, 0)).2.2.1) := by
  intro t
  induction t with
  | zero => intro _; exact ⟨Nat.le_refl _, fun h => absurd rfl h⟩
  | succ t ih =>
    intro ht
    obtain ⟨i1, i2⟩ := ih (by omega)
    rw [List.range_succ, List.foldl_append]
    show (stC P ((List.range t).foldl (stC P) (0, 0, -1, 0)) t).1 ≤ t + 1 ∧ (¬ (stC P ((List.range t).foldl (stC P) (0, 0, -1, 0)) t).1 = 0 → (stC P ((List.range t).foldl (stC P) (0, 0, -1, 0)) t).2.1 < t + 1 ∧ K &&& (stC P ((List.range t).foldl (stC P) (0, 0, -1, 0)) t).2.2.1 = (stC P ((List.range t).foldl (stC P) (0, 0, -1, 0)) t).2.2.1)
    generalize (List.range t).foldl (stC P) (0, 0, -1, 0) = a at i1 i2
    unfold stC
    split
    · refine ⟨?_, fun _ => ⟨?_, ?_⟩⟩
      · show a.1 + 1 ≤ t + 1
        omega
      · show (if a.1 = 0 then t else min a.2.1 t) < t + 1
        split
        · omega
        · exact Nat.lt_succ_of_le (Nat.min_le_right _ _)
      · show K &&& (a.2.2.1 &&& nI t) = a.2.2.1 &&& nI t
        rw [← Int32.and_assoc, Int32.and_comm K, Int32.and_assoc, hK t (by omega)]
    · exact ⟨by omega, fun h => ⟨by have := (i2 h).1; omega, (i2 h).2⟩⟩
/-- what is told of them -/
def finM (z : Int32) (K : Int32) (A : AC) (μ : Mem) : Res := if nI A.1 = 0 then (if z = 1 then f_X9_error 142 2 μ else (if z = 2 then f_X9_error 142 2 μ else X9_came_J171 z (nI A.1) (if A.1 = 0 then -1 else nI A.2.1) (K &&& A.2.2.1) A.2.2.2 μ)) else X9_came_J171 z (nI A.1) (if A.1 = 0 then -1 else nI A.2.1) (K &&& A.2.2.1) A.2.2.2 μ
theorem came88 (hI : Inv σ) (hk : k < 4) (hs : s < 6) {P : Nat → Bool} (hP : ∀ G, P G = true ↔ ∀ g, g < 6 → vP σ G (nC σ) (25 + 21 * s + g) = f g) (z : Int32) {K : Int32} : ∀ d t (μ : Mem) (a : AC) n, t + d = 2 ^ nC σ → d < n → μ 143 = σ → (∀ g, g < 6 → μ 153 (24 * k + g) = f g) → a = (List.range t).foldl (stC P) (0, 0, -1, 0) → ∃ μ', X9_came_L88 n 142 (nI k) (nI s) z (nI a.1) (if a.1 = 0 then -1 else nI a.2.1) (K &&& a.2.2.1) a.2.2.2 (nI t) μ = finM z K ((List.range (2 ^ nC σ)).foldl (stC P) (0, 0, -1, 0)) μ' ∧ μ' 143 = σ ∧ FrT μ μ' := by
  have h10 := hI.c10
  have hpw := p1024 h10
  intro d
  induction d with
  | zero =>
    intro t μ a n ht hn h hf ha
    obtain ⟨n, rfl⟩ : ∃ m, n = m + 1 := ⟨n - 1, by omega⟩
    have htt : t = 2 ^ nC σ := by omega
    refine ⟨μ, ?_, h, FrT.rf _⟩
    rw [htt] at ha
    rw [← ha]
    show X9_came_L88B _ 142 (nI k) (nI s) z (nI a.1) _ _ _ (nI t) μ = _
    unfold X9_came_L88B X9_came_J165 finM
    rw [show inb (1 : Int32) 516 = true from by decide, gd_t, ix143 h, z1, hI.s1, islC _ h10, if_pos ((nI_leq (by omega) (by omega)).mpr (by omega)), cal_e]
  | succ d ih =>
    intro t μ a n ht hn h hf ha
    obtain ⟨n, rfl⟩ : ∃ m, n = m + 1 := ⟨n - 1, by omega⟩
    obtain ⟨j1, j2⟩ := acc_inv P (K := -1) (B := 2 ^ nC σ) (fun G _ => Int32.neg_one_and) t (by omega)
    rw [← ha] at j1 j2
    obtain ⟨m1, b1, b2', b3⟩ := leaves9 hI hk hs hP (S := t) (by omega) h hf
    have hf1 : ∀ g, g < 6 → m1 153 (24 * k + g) = f g := fun g hg => by rw [b3 153 (by omega) (by omega) (by omega) (by omega)]; exact hf g hg
    have ha' : stC P a t = (List.range (t + 1)).foldl (stC P) (0, 0, -1, 0) := by
      rw [List.range_succ, List.foldl_append, ← ha]
      rfl
    obtain ⟨m2, c1, c2, c3⟩ := ih (t + 1) m1 (stC P a t) n (by omega) (by omega) b2' hf1 ha'
    refine ⟨m2, ?_, c2, b3.tr c3⟩
    rw [← c1]
    show X9_came_L88B _ 142 (nI k) (nI s) z (nI a.1) _ _ _ (nI t) μ = _
    unfold X9_came_L88B
    rw [show inb (1 : Int32) 516 = true from by decide, gd_t, ix143 h, z1, hI.s1, islC _ h10, if_neg (fun q => absurd ((nI_leq (by omega) (by omega)).mp q) (by omega)), b1, cal_some]
    unfold X9_came_J144 X9_came_J128 X9_came_J144 stC
    by_cases q : P t = true
    · rw [b2_t q, if_neg (by decide), if_pos q, bnd_eq, bnd_eq, bnd_eq, bnd_eq, bnd_eq, bnd_eq, nI_s, nI_s]
      show _ = X9_came_L88 n 142 (nI k) (nI s) z (nI (a.1 + 1)) (if a.1 + 1 = 0 then -1 else nI (if a.1 = 0 then t else min a.2.1 t)) (K &&& (a.2.2.1 &&& nI t)) (a.2.2.2 ||| nI t) (nI (t + 1)) m1
      rw [if_neg (show ¬ a.1 + 1 = 0 by omega), Int32.and_assoc]
      by_cases w : a.1 = 0
      · rw [if_pos w, if_pos rfl, if_pos w]
      · have := (j2 w).1
        rw [if_neg w, if_neg (nI_nm1 (by omega)), if_neg w, Nat.min_eq_left (by omega), bnd_eq]
    · rw [b2_f q, if_pos rfl, if_neg q, bnd_eq, nI_s]
end LV
end
