/-! PURE 38: the class tries all sets -/
section
def SC (s : Nat) (f : Nat → Int32) (μ : Mem) (a : AC) : Prop := μ 130 0 = nI a.1 ∧ (¬ a.1 = 0 → μ 130 1 = nI a.2.1) ∧ μ 130 2 = a.2.2.1 ∧ μ 130 3 = a.2.2.2 ∧ μ 130 4 = nI s ∧ ∀ g, g < 6 → μ 131 g = f g
theorem SC.fr {s : Nat} {f : Nat → Int32} {μ μ' : Mem} {a : AC} (h : SC s f μ a) (e0 : μ' 130 = μ 130) (e1 : μ' 131 = μ 131) : SC s f μ' a := by
  unfold SC
  rw [e0, e1]
  exact h
def FrS (μ μ' : Mem) : Prop := ∀ l, (l < 83 ∨ 124 ≤ l) → l ≠ 130 → l ≠ 132 → μ' l = μ l
theorem FrS.tr {a b c : Mem} (h1 : FrS a b) (h2 : FrS b c) : FrS a c := fun l x y z => (h2 l x y z).trans (h1 l x y z)
theorem mcpyG_ne {μ : Mem} {a sp b dp n l : Nat} (h : l ≠ b) : mcpy μ a sp b dp n l = μ l := by
  funext i
  exact if_neg h
theorem mcpyG_at {μ : Mem} {a sp b dp n i : Nat} (h1 : dp ≤ i) (h2 : i < dp + n) : mcpy μ a sp b dp n b i = μ a (sp + (i - dp)) := by
  unfold mcpy va_cpy
  rw [if_pos rfl, if_pos ⟨h1, h2⟩]
theorem mcpyG_out {μ : Mem} {a sp b dp n i : Nat} (h : i < dp ∨ dp + n ≤ i) : mcpy μ a sp b dp n b i = μ b i := by
  unfold mcpy va_cpy
  rw [if_pos rfl, if_neg (by omega)]
theorem jl_yes {μ : Mem} {s : Nat} (hp : μ 130 4 = nI s) (hs : s < 6) (x : Int32) : ∀ d g n, g + d = 6 → d < n → (∀ j, g ≤ j → j < 6 → μ (83 + 9 + 3 * s) j = μ 131 j) → X3_judgeSet_L2 n 130 83 x (nI g) μ = (if μ 130 0 = 0 then X3_judgeSet_J58 130 x 130 x μ else X3_judgeSet_J58 130 x 130 (imin (μ 130 1) x) μ) := by
  intro d
  induction d with
  | zero =>
    intro g n hg hn h
    obtain ⟨n, rfl⟩ : ∃ m, n = m + 1 := ⟨n - 1, by omega⟩
    show X3_judgeSet_L2B _ 130 83 x (nI g) μ = _
    unfold X3_judgeSet_L2B
    rw [if_pos ((six_le (by omega)).mpr (by omega))]
  | succ d ih =>
    intro g n hg hn h
    obtain ⟨n, rfl⟩ : ∃ m, n = m + 1 := ⟨n - 1, by omega⟩
    show X3_judgeSet_L2B _ 130 83 x (nI g) μ = _
    unfold X3_judgeSet_L2B
    rw [if_neg (fun q => absurd ((six_le (by omega)).mp q) (by omega)), hp, inb_nI hs (by omega), gd_t, inb_nI (k := g) (by omega) (by omega), gd_t, gd_t, clamp_nI (k := s) (by omega), clamp_nI (k := g) (by omega), locA, locC, show (130 + 1 : Nat) = 131 from rfl, if_pos (h g (by omega) (by omega)), bnd_eq, nI_s]
    exact ih (g + 1) n (by omega) (by omega) (fun j a b => h j (by omega) b)
theorem jl_no {μ : Mem} {s : Nat} (hp : μ 130 4 = nI s) (hs : s < 6) (x : Int32) : ∀ d g n, g + d = 6 → d < n → (∃ j, g ≤ j ∧ j < 6 ∧ ¬ μ (83 + 9 + 3 * s) j = μ 131 j) → X3_judgeSet_L2 n 130 83 x (nI g) μ = some (0, μ) := by
  intro d
  induction d with
  | zero => intro g n hg hn ⟨j, a, b, _⟩; omega
  | succ d ih =>
    intro g n hg hn ⟨j, a, b, e⟩
    obtain ⟨n, rfl⟩ : ∃ m, n = m + 1 := ⟨n - 1, by omega⟩
    show X3_judgeSet_L2B _ 130 83 x (nI g) μ = _
    unfold X3_judgeSet_L2B
    rw [if_neg (fun q => absurd ((six_le (by omega)).mp q) (by omega)), hp, inb_nI hs (by omega), gd_t, inb_nI (k := g) (by omega) (by omega), gd_t, gd_t, clamp_nI (k := s) (by omega), clamp_nI (k := g) (by omega), locA, locC, show (130 + 1 : Nat) = 131 from rfl, bnd_eq, nI_s]
    by_cases c : μ (83 + 9 + 3 * s) g = μ 131 g
    · rw [if_pos c]
      refine ih (g + 1) n (by omega) (by omega) ⟨j, ?_, b, e⟩
      rcases Nat.lt_or_ge g j with q | q
      · exact q
      · exact absurd (by rw [show j = g by omega]; exact c) e
    · rw [if_neg c]
theorem j58 {μ : Mem} (x y : Int32) : ∃ μ', X3_judgeSet_J58 130 x 130 y μ = some (0, μ') ∧ μ' 130 0 = μ 130 0 + 1 ∧ μ' 130 1 = y ∧ μ' 130 2 = μ 130 2 &&& x ∧ μ' 130 3 = μ 130 3 ||| x ∧ μ' 130 4 = μ 130 4 ∧ ∀ l, l ≠ 130 → μ' l = μ l := by
  unfold X3_judgeSet_J58
  rw [bnd_eq, bnd_eq, bnd_eq, bnd_eq]
  have e0 : mset μ 130 1 y 130 0 = μ 130 0 := mset_ne (by omega)
  have e2 : mset (mset μ 130 1 y) 130 0 (μ 130 0 + 1) 130 2 = μ 130 2 := by rw [mset_ne (by omega), mset_ne (by omega)]
  have e3 : mset (mset (mset μ 130 1 y) 130 0 (μ 130 0 + 1)) 130 2 (μ 130 2 &&& x) 130 3 = μ 130 3 := by rw [mset_ne (by omega), mset_ne (by omega), mset_ne (by omega)]
  rw [e0, e2, e3]
  refine ⟨_, rfl, ?_, ?_, ?_, ?_, ?_, fun l hl => ?_⟩
  · rw [mset_ne (by omega), mset_ne (by omega), mset_self]
  · rw [mset_ne (by omega), mset_ne (by omega), mset_ne (by omega), mset_self]
  · rw [mset_ne (by omega), mset_self]
  · rw [mset_self]
  · rw [mset_ne (by omega), mset_ne (by omega), mset_ne (by omega), mset_ne (by omega)]
  · rw [mset_row hl, mset_row hl, mset_row hl, mset_row hl]
theorem judgeSet3 {s : Nat} {f : Nat → Int32} {μ : Mem} {a : AC} {τ : Nat → Int32} (hS : SC s f μ a) (h : RepW μ 83 τ) (hI : Inv τ) (hs : s < nS τ) {G : Nat} (hG : G < 1024) (ha : a.1 < 1024) (ha2 : a.2.1 < 1024) {P : Nat → Bool} (hP : P G = true ↔ ∀ g, g < 6 → τ (25 + 21 * s + g) = f g) : ∃ μ', f_X3_judgeSet 130 83 (nI G) μ = some (0, μ') ∧ SC s f μ' (stC P a G) ∧ ∀ l, l ≠ 130 → μ' l = μ l := by
  have h6 := hI.n6
  obtain ⟨s0, s1, s2, s3, s4, s5⟩ := id hS
  have he : ∀ g, g < 6 → (μ (83 + 9 + 3 * s) g = μ 131 g ↔ τ (25 + 21 * s + g) = f g) := fun g hg => by rw [rd_stock h hI hs hg, s5 g hg]
  by_cases c : P G = true
  · have hall := hP.mp c
    have e1 := jl_yes s4 (by omega) (nI G) 6 0 FU (by omega) (by decide) (fun j _ hj => (he j hj).mpr (hall j hj))
    have e2 : f_X3_judgeSet 130 83 (nI G) μ = X3_judgeSet_J58 130 (nI G) 130 (nI (if a.1 = 0 then G else min a.2.1 G)) μ := by
      refine Eq.trans e1 ?_
      rw [s0]
      by_cases q : a.1 = 0
      · rw [if_pos (by rw [q]; rfl), if_pos q]
      · rw [if_neg (fun z => q ((eqI (x := 0) 0 rfl (by omega) (by omega)).mp z)), if_neg q, s1 q, imin_nI (by omega) (by omega)]
    obtain ⟨m1, b1, b2, b3, b4, b5, b6, b7⟩ := j58 (μ := μ) (nI G) (nI (if a.1 = 0 then G else min a.2.1 G))
    refine ⟨m1, e2.trans b1, ?_, b7⟩
    unfold stC
    rw [if_pos c]
    exact ⟨by rw [b2, s0, nI_s], fun _ => b3, by rw [b4, s2], by rw [b5, s3], by rw [b6, s4], fun g hg => by rw [b7 131 (by omega)]; exact s5 g hg⟩
  · have hex : ∃ j, 0 ≤ j ∧ j < 6 ∧ ¬ μ (83 + 9 + 3 * s) j = μ 131 j := Classical.byContradiction (fun hn => c (hP.mpr (fun g hg => (he g hg).mp (Classical.byContradiction (fun hq => hn ⟨g, by omega, hg, hq⟩)))))
    refine ⟨μ, jl_no s4 (by omega) (nI G) 6 0 FU (by omega) (by decide) hex, ?_, fun _ _ => rfl⟩
    unfold stC
    rw [if_neg c]
    exact hS
theorem ix36 (c i : Nat) : (nI c * 6 + nI i) * 6 = nI (36 * c + 6 * i) := by
  show (nI c * nI 6 + nI i) * nI 6 = _
  rw [nI_mul, nI_add, nI_mul]
  congr 1
  omega
theorem cpok_sv {q : Nat} (h : q + 6 ≤ 360) : cpok 0 (nI q) 6 6 360 = true ∧ cpok (nI q) 0 6 360 6 = true := by
  unfold cpok
  rw [clamp_nI (by omega), z0, six_c, decide_eq_true (nI_neg (by omega)), decide_eq_true h, decide_eq_true (show ¬ (0 : Int32) < 0 by decide), decide_eq_true (show ¬ (6 : Int32) < 0 by decide), decide_eq_true (show 0 + 6 ≤ 6 by omega)]
  exact ⟨rfl, rfl⟩
theorem save27 (R : Nat → Nat → Int32 → Int32 → Mem → Res) {c N : Nat} (hc : c < 10) (hN : N ≤ 6) (x : Int32) : ∀ d i (μ : Mem) n, i + d = N → d < n → μ 83 4 = nI N → ∃ μ', X3_tryFrom_L27 R n 130 83 (nI c) x (nI i) μ = cal (f_X7_goAlong 83 (nI c) μ') (fun r1 m2 => cal (R 130 83 (nI (c + 1)) (x ||| isl 1 (nI c)) m2) (fun r3 m4 => X3_tryFrom_L90 R FU 130 83 (nI c) 0 m4)) ∧ (∀ l, l ≠ 132 → μ' l = μ l) ∧ (∀ j, j < 36 * c + 6 * i → μ' 132 j = μ 132 j) ∧ (∀ k, i ≤ k → k < N → ∀ g, g < 6 → μ' 132 (36 * c + 6 * k + g) = μ (83 + 9 + 3 * k) g) := by
  intro d
  induction d with
  | zero =>
    intro i μ n hi hn h
    obtain ⟨n, rfl⟩ : ∃ m, n = m + 1 := ⟨n - 1, by omega⟩
    refine ⟨μ, ?_, fun _ _ => rfl, fun _ _ => rfl, fun k a b => by omega⟩
    show X3_tryFrom_L27B R _ 130 83 (nI c) x (nI i) μ = _
    unfold X3_tryFrom_L27B
    rw [h, if_pos ((nI_leq (by omega) (by omega)).mpr (by omega)), nI_s]
  | succ d ih =>
    intro i μ n hi hn h
    obtain ⟨n, rfl⟩ : ∃ m, n = m + 1 := ⟨n - 1, by omega⟩
    obtain ⟨m1, hm1⟩ : ∃ m1, m1 = mcpy μ (83 + 9 + 3 * i) 0 132 (36 * c + 6 * i) 6 := ⟨_, rfl⟩
    have f1 : ∀ l, l ≠ 132 → m1 l = μ l := fun l a => by rw [hm1]; exact mcpyG_ne a
    obtain ⟨m2, a1, a2, a3, a4⟩ := ih (i + 1) m1 n (by omega) (by omega) (by rw [f1 83 (by omega)]; exact h)
    refine ⟨m2, ?_, fun l a => by rw [a2 l a, f1 l a], fun j hj => ?_, fun k b e g hg => ?_⟩
    · show X3_tryFrom_L27B R _ 130 83 (nI c) x (nI i) μ = _
      unfold X3_tryFrom_L27B f_X3_startOf
      rw [h, if_neg (fun q => absurd ((nI_leq (by omega) (by omega)).mp q) (by omega)), inb_nI (k := i) (by omega) (by omega), gd_t, cal_some, ix36, (cpok_sv (by omega)).1, gd_t, bnd_eq, bnd_eq, nI_s, clamp_nI (k := i) (by omega), clamp_nI (k := 36 * c + 6 * i) (by omega), z0, six_c, locA, locC, show (130 + 2 : Nat) = 132 from rfl, ← hm1]
      exact a1
    · rw [a3 j (by omega), hm1, mcpyG_out (by omega)]
    · by_cases e2 : k = i
      · subst e2
        rw [a3 _ (by omega), hm1, mcpyG_at (by omega) (by omega)]
        congr 1
        omega
      · rw [a4 k (by omega) e g hg, f1 _ (by omega)]
theorem RepW.stk {μ μ' : Mem} {w : Nat} {σ σ' : Nat → Int32} (h : RepW μ w σ) {k : Nat} (hk : k < 6) (f : ∀ l, l ≠ w + 9 + 3 * k → μ' l = μ l) (g : ∀ g, g < 6 → μ' (w + 9 + 3 * k) g = σ' (25 + 21 * k + g)) (o : ∀ i, i < 25 + 21 * k ∨ 31 + 21 * k ≤ i → σ' i = σ i) : RepW μ' w σ' := by
  have hlv : lve σ' = lve σ := by
    unfold lve nS nC nT nW
    rw [o 0 (by omega), o 1 (by omega), o 6 (by omega), o 7 (by omega)]
  have hns : nS σ' = nS σ := by
    unfold nS
    rw [o 0 (by omega)]
  refine ⟨fun i p hi hl => ?_, fun k' hk' g' hg' => ?_, fun u hu => ⟨?_, fun i hi => ?_⟩⟩
  · rw [hlv] at hl
    by_cases c : 25 + 21 * k ≤ i ∧ i < 31 + 21 * k
    · obtain ⟨j, hj, rfl⟩ : ∃ j, j < 6 ∧ i = 25 + 21 * k + j := ⟨i - (25 + 21 * k), by omega, by omega⟩
      have e : p = (9 + 3 * k, j) := Option.some.inj (hi.symm.trans (am_stock k hk j hj))
      subst e
      show μ' (w + (9 + 3 * k)) j = _
      rw [← Nat.add_assoc]
      exact g j hj
    · have hp : p.1 ≠ 9 + 3 * k := by
        intro e
        have hb := (am_bk hi).1
        rcases am_sh hi with ⟨-, e', m⟩ | ⟨-, -, e', m⟩ | ⟨a, b, e'⟩ | ⟨a, b, e', m⟩ | ⟨a, b, e', m⟩ | ⟨a, b, e', m⟩
        · omega
        · omega
        · rcases e' with ⟨e', m⟩ | ⟨e', m⟩ | ⟨e', m⟩
          · omega
          · omega
          · have hp2 : p = (9 + 3 * k, p.2) := Prod.ext e rfl
            have := am_stock k hk p.2 m
            rw [← hp2] at this
            have := am_inj hi this
            omega
        · omega
        · omega
        · omega
      rw [o i (by omega), f _ (by omega)]
      exact h.1 i p hi hl
  · rw [hns] at hk'
    have : 31 + 21 * k' + g' < 25 + 21 * k ∨ 31 + 21 * k ≤ 31 + 21 * k' + g' := by omega
    rw [o _ this, f _ (by omega)]
    exact h.2.1 k' hk' g' hg'
  · rw [o _ (by omega), f _ (by omega)]
    exact (h.2.2 u hu).1
  · rw [o _ (by omega)] at hi
    rw [o _ (by omega), o _ (by omega), f _ (by omega)]
    exact (h.2.2 u hu).2 i hi
/-- stocks as they were -/
def rs1 (τ ρ : Nat → Int32) (k : Nat) : Nat → Int32 := fun j => if 25 + 21 * k ≤ j ∧ j < 31 + 21 * k then ρ j else τ j
def rsG (ρ : Nat → Int32) : Nat → Nat → (Nat → Int32) → (Nat → Int32)
  | 0, _, τ => τ
  | d + 1, i, τ => rsG ρ d (i + 1) (rs1 τ ρ i)
theorem rs1_inv {τ ρ : Nat → Int32} (hI : Inv τ) (hJ : Inv ρ) (hn : nS ρ = nS τ) {k : Nat} (hk : k < nS τ) : Inv (rs1 τ ρ k) ∧ nS (rs1 τ ρ k) = nS τ := by
  have h6 := hI.n6
  refine ⟨hI.shops (fun i hi => if_neg (by omega)) (fun k' hk' => ShopOk.mk (fun j hj => ?_)), by unfold nS rs1; rw [if_neg (by omega)]⟩
  unfold rs1
  by_cases c : 25 + 21 * k ≤ 16 + 21 * k' + j ∧ 16 + 21 * k' + j < 31 + 21 * k
  · rw [if_pos c]
    exact (hJ.shop k' (by omega)).at hj
  · rw [if_neg c]
    exact (hI.shop k' hk').at hj
theorem rsG_at (ρ : Nat → Int32) : ∀ d i (τ : Nat → Int32) j, rsG ρ d i τ j = ρ j ∨ rsG ρ d i τ j = τ j := by
  intro d
  induction d with
  | zero => intro i τ j; exact Or.inr rfl
  | succ d ih =>
    intro i τ j
    rcases ih (i + 1) (rs1 τ ρ i) j with q | q
    · exact Or.inl q
    · have q' : rsG ρ (d + 1) i τ j = rs1 τ ρ i j := q
      rw [q']
      unfold rs1
      split
      · exact Or.inl rfl
      · exact Or.inr rfl
theorem rsG_in (ρ : Nat → Int32) {k g : Nat} (hg : g < 6) : ∀ d i (τ : Nat → Int32), (i ≤ k ∧ k < i + d) ∨ τ (25 + 21 * k + g) = ρ (25 + 21 * k + g) → rsG ρ d i τ (25 + 21 * k + g) = ρ (25 + 21 * k + g) := by
  intro d
  induction d with
  | zero =>
    intro i τ h
    rcases h with h | h
    · omega
    · exact h
  | succ d ih =>
    intro i τ h
    refine ih (i + 1) _ ?_
    by_cases e : k = i
    · subst e
      refine Or.inr ?_
      unfold rs1
      rw [if_pos (by omega)]
    · rcases h with h | h
      · exact Or.inl (by omega)
      · refine Or.inr ?_
        unfold rs1
        split
        · rfl
        · exact h
theorem rest90 (R : Nat → Nat → Int32 → Int32 → Mem → Res) {c N : Nat} (hc : c < 10) {ρ : Nat → Int32} (hJ : Inv ρ) (hN : nS ρ = N) : ∀ d i (μ : Mem) (τ : Nat → Int32) n, i + d = N → d < n → RepW μ 83 τ → Inv τ → nS τ = N → (∀ k, k < N → ∀ g, g < 6 → μ 132 (36 * c + 6 * k + g) = ρ (25 + 21 * k + g)) → PW 83 μ (X3_tryFrom_L90 R n 130 83 (nI c) (nI i) μ) 0 (rsG ρ d i τ) ∧ Inv (rsG ρ d i τ) := by
  have h6 := hJ.n6
  intro d
  induction d with
  | zero =>
    intro i μ τ n hi hn h hI hT hs
    obtain ⟨n, rfl⟩ : ∃ m, n = m + 1 := ⟨n - 1, by omega⟩
    refine ⟨⟨μ, ?_, h, FrW.rf _ _⟩, hI⟩
    show X3_tryFrom_L90B R _ 130 83 (nI c) (nI i) μ = _
    unfold X3_tryFrom_L90B
    rw [rd_n h, hI.s0, hT, if_pos ((nI_leq (by omega) (by omega)).mpr (by omega))]
  | succ d ih =>
    intro i μ τ n hi hn h hI hT hs
    obtain ⟨n, rfl⟩ : ∃ m, n = m + 1 := ⟨n - 1, by omega⟩
    obtain ⟨b1, b2⟩ := rs1_inv hI hJ (by omega) (k := i) (by omega)
    obtain ⟨m1, hm1⟩ : ∃ m1, m1 = mcpy μ 132 (36 * c + 6 * i) (83 + 9 + 3 * i) 0 6 := ⟨_, rfl⟩
    have f1 : ∀ l, l ≠ 83 + 9 + 3 * i → m1 l = μ l := fun l a => by rw [hm1]; exact mcpyG_ne a
    have r1 : RepW m1 83 (rs1 τ ρ i) := by
      refine h.stk (k := i) (by omega) f1 (fun g hg => ?_) (fun j hj => if_neg (by omega))
      rw [hm1, mcpyG_at (by omega) (by omega)]
      unfold rs1
      rw [if_pos (by omega), ← hs i (by omega) g hg]
      congr 1
    have fw : FrW 83 μ m1 := fun l hl => f1 l (by omega)
    obtain ⟨⟨m2, a1, a2, a3⟩, a4⟩ := ih (i + 1) m1 _ n (by omega) (by omega) r1 b1 (by omega) (fun k hk g hg => by rw [f1 132 (by omega)]; exact hs k hk g hg)
    refine ⟨⟨m2, ?_, a2, fw.tr a3⟩, a4⟩
    show X3_tryFrom_L90B R _ 130 83 (nI c) (nI i) μ = _
    unfold X3_tryFrom_L90B f_X3_startOf
    rw [rd_n h, hI.s0, hT, if_neg (fun q => absurd ((nI_leq (by omega) (by omega)).mp q) (by omega)), cal_some, ix36, inb_nI (k := i) (by omega) (by omega), gd_t, (cpok_sv (by omega)).2, gd_t, bnd_eq, bnd_eq, nI_s, clamp_nI (k := i) (by omega), clamp_nI (k := 36 * c + 6 * i) (by omega), z0, six_c, locA, locC, show (130 + 2 : Nat) = 132 from rfl, ← hm1]
    exact a1
end
