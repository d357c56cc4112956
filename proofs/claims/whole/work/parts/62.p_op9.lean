/-! PURE 27: what would be: out, walk -/
section
theorem hasOther9 {μ : Mem} {σ : Nat → Int32} (h : μ 143 = σ) (hI : Inv σ) {k : Nat} (hk : k < nS σ) : f_X9_hasOther 142 (nI k) μ = some (b2 (∃ l, lft σ k = some l ∧ ¬ l = k), μ) ∧ f_X9_left 142 (nI k) μ = some (eO (lft σ k), μ) := by
  have h6 := hI.n6
  have hl : f_X9_left 142 (nI k) μ = some (eO (lft σ k), μ) := by
    have := left9 (μ := μ) (by rw [h]; exact hI) (o := some k) (by intro j hj; cases hj; rw [h]; exact hk)
    rw [h] at this
    exact this
  refine ⟨?_, hl⟩
  unfold f_X9_hasOther X9_hasOther_J22 X9_hasOther_J23
  rw [hl, cal_some]
  cases q : lft σ k with
  | none =>
    rw [if_pos (show eO none = -1 from rfl), b2_f (by rintro ⟨l, a, -⟩; cases a)]
    rfl
  | some l =>
    have hls : l < nS σ := lft_ok hk l q
    rw [if_neg (show ¬ eO (some l) = -1 from nI_nm1 (by omega)), hl, q, cal_some]
    by_cases e : l = k
    · rw [if_pos (show eO (some l) = nI k from by rw [e]; rfl), b2_f (by rintro ⟨l', a, b⟩; cases a; exact b e)]
      rfl
    · rw [if_neg (show ¬ eO (some l) = nI k from nI_ne (by omega) (by omega) e), b2_t ⟨l, rfl, e⟩]
      rfl
theorem behind2 {k : Nat} (hk : k < 6) {σ0 : Nat → Int32} : ∀ d i (μ : Mem) (σ : Nat → Int32) n, i + d = nC σ → d < n → μ 143 = σ → Inv σ → Put μ σ0 → (∀ j, 516 ≤ j → σ j = σ0 j) → ∃ μ', X9_behindVisits_L2 n 142 (nI k) (nI i) μ = some (shGo (fun σ c => (vis σ c).1) d i σ (18 + 21 * k), μ') ∧ μ' 143 = σ0 ∧ Put μ' σ0 ∧ FrT μ μ' := by
  have e1 : (1 : Int32).toNatClampNeg = 1 := by decide
  intro d
  induction d with
  | zero =>
    intro i μ σ n hi hn h hI hp ho
    obtain ⟨n, rfl⟩ : ∃ m, n = m + 1 := ⟨n - 1, by omega⟩
    have h10 := hI.c10
    refine ⟨sR μ 143 σ0, ?_, sR_same _ _ _, hp.s _, FrT.s _ _⟩
    show X9_behindVisits_L2B _ 142 (nI k) (nI i) μ = _
    unfold X9_behindVisits_L2B
    rw [show inb (1 : Int32) 516 = true from by decide, gd_t, ix143 h, e1, hI.s1, if_pos ((nI_leq (by omega) (by omega)).mpr (by omega)), its9_2 hk, cal_some, carryB hp (fun j hj => by rw [h, ho j hj]), cal_some, h]
    rfl
  | succ d ih =>
    intro i μ σ n hi hn h hI hp ho
    obtain ⟨n, rfl⟩ : ∃ m, n = m + 1 := ⟨n - 1, by omega⟩
    have h10 := hI.c10
    have hc : i < nC σ := by omega
    have kp := vis_kp hI hc
    obtain ⟨m1, a1, s1, g1⟩ := visits9 h hI hc
    obtain ⟨m2, a2, s2, p2, g2⟩ := ih (i + 1) m1 _ n (by rw [kp.2.2.1]; omega) (by omega) s1 kp.1 (hp.fr g1) (fun j hj => (kp.hi j hj).trans (ho j hj))
    refine ⟨m2, ?_, s2, p2, g1.t.tr g2⟩
    show X9_behindVisits_L2B _ 142 (nI k) (nI i) μ = _
    unfold X9_behindVisits_L2B
    rw [show inb (1 : Int32) 516 = true from by decide, gd_t, ix143 h, e1, hI.s1, if_neg (fun q => absurd ((nI_leq (by omega) (by omega)).mp q) (by omega)), a1, cal_some, bnd_eq, nI_s, a2]
    rfl
theorem bout_kp {σ : Nat → Int32} (hI : Inv σ) {k l g : Nat} (hk : k < nS σ) (hl : l < nS σ) (hg : g < 6) : Kp σ (bout σ k l g) := Kp.sh (bout_inv hI hk hl hg).1 (fun _ hi => by
  have h6 := hI.n6
  exact bout_ne hi (by omega) (by omega) hg)
theorem sim_out {μ : Mem} (h : Rel μ) (x y : Int32) : Sm (f_X8_out 0 x y μ) (f_X9_out 142 x y) := by
  obtain ⟨h1, h2, h3⟩ := id h
  have h6 := h2.n6
  by_cases c1 : (0 : Int32) ≤ x ∧ x ≤ μ 143 0 - 1
  · by_cases c2 : (0 : Int32) ≤ y ∧ y ≤ 5
    · obtain ⟨k, hk, e1⟩ := h2.sh c1
      obtain ⟨g, -, hg, e2⟩ := lit_rg 0 5 rfl rfl (by omega) (by omega) c2
      have hg6 : g < 6 := by omega
      by_cases c3 : ∃ l, lft (μ 143) k = some l ∧ ¬ l = k
      · obtain ⟨l, hl, hn⟩ := id c3
        have hls : l < nS (μ 143) := lft_ok hk l hl
        have hstk : μ (1 + 9 + 3 * l) g = stk (μ 143) l g := rd_stock h1 h2 hls hg6
        by_cases c4 : stk (μ 143) l g = 0
        · refine Sm.er h (k := 3) (by omega) ?_ (fun m e _ => ?_)
          · unfold f_X8_out X8_out_J59
            simp only [Nat.zero_add]
            rw [hasShop7 h1, cal_some, b2_t c1, if_neg (by decide), isGood8, cal_some, b2_t c2, if_neg (by decide), e1, leftOf7 h1 h2 hk, cal_some, hl, if_neg (show ¬ eO (some l) < 0 from nI_neg (by omega)), if_neg (show ¬ eO (some l) = nI k from nI_ne (by omega) (by omega) hn), e2, show eO (some l) = nI l from rfl, inb_nI (by omega) (by omega), gd_t, inb_nI hg6 (by omega), gd_t, clamp_nI (by omega), clamp_nI (by omega), locA, locC, hstk, if_pos c4]
            exact cal_e _
          · have ho := hasOther9 e h2 hk
            unfold f_X9_out X9_out_J45
            rw [isShop9 e, cal_some, b2_t c1, if_neg (by decide), isGood9, cal_some, b2_t c2, if_neg (by decide), e1, ho.1, cal_some, b2_t c3, if_neg (by decide), ho.2, cal_some, hl, e2, show eO (some l) = nI l from rfl, its9_s (by omega) hg6, cal_some, e, if_pos c4]
            exact cal_e _
        · obtain ⟨μ1, a1, r1, f1⟩ := trial7 h1 h2
          obtain ⟨μ2, a2, r2, f2⟩ := allGoAlong7 r1 h2
          have n2 := now_fr h1 h2 (f1.tr f2)
          obtain ⟨μ3, a3, r3, f3⟩ := trial7 n2 h2
          obtain ⟨μ4, a4, r4, f4⟩ := buyOut7 r3 h2 hk hls hg6
          have kb := bout_kp h2 hk hls hg6
          obtain ⟨μ5, a5, r5, f5⟩ := allGoAlong7 r4 kb.1
          have kv := visAll_kp h2
          have kv2 := visAll_kp kb.1
          have p2 := rd_purse r2 kv.1 (k := k) (by rw [kv.2.1]; exact hk)
          have p5 := rd_purse r5 kv2.1 (k := k) (by rw [kv2.2.1, kb.2.1]; exact hk)
          have ff := (((f1.tr f2).tr f3).tr f4).tr f5
          have hX : f_X8_out 0 x y μ = some (visAll (bout (μ 143) k l g) (18 + 21 * k) - visAll (μ 143) (18 + 21 * k), μ5) := by
            unfold f_X8_out
            simp only [Nat.zero_add]
            rw [hasShop7 h1, cal_some, b2_t c1, if_neg (by decide), isGood8, cal_some, b2_t c2, if_neg (by decide), e1, leftOf7 h1 h2 hk, cal_some, hl, if_neg (show ¬ eO (some l) < 0 from nI_neg (by omega)), if_neg (show ¬ eO (some l) = nI k from nI_ne (by omega) (by omega) hn), e2, show eO (some l) = nI l from rfl, inb_nI (by omega) (by omega), gd_t, inb_nI hg6 (by omega), gd_t, clamp_nI (by omega), clamp_nI (by omega), clamp_nI (by omega), locA, locC, hstk, if_neg c4, a1, cal_some, a2, cal_some, inb_nI (by omega) (by omega), gd_t, bnd_eq, a3, cal_some, a4, cal_some, a5, cal_some, gd_t, locA, p2, p5]
          have hm : μ5 143 = μ 143 := ff.c83 143 (by omega)
          obtain ⟨m1, b1, s1, q1, g1⟩ := carryS hm
          obtain ⟨m2, b3, s2, q2, g2⟩ := behind2 (k := k) (by omega) (nC (μ 143)) 0 m1 _ FU (by omega) (by have := h2.c10; rw [FU_eq]; omega) s1 h2 q1 (fun _ _ => rfl)
          obtain ⟨m3, b4, s3, g3⟩ := buysOut9 s2 h2 hk hl hg6
          obtain ⟨m4, b5, s4, q4, g4⟩ := behind2 (k := k) (by omega) (nC (bout (μ 143) k l g)) 0 m3 _ FU (by omega) (by have := kb.1.c10; rw [FU_eq]; omega) s3 kb.1 (q2.fr g3) kb.hi
          have ho := hasOther9 hm h2 hk
          have b3' : f_X9_behindVisits 142 (nI k) m1 = some (visAll (μ 143) (18 + 21 * k), m2) := b3
          have b5' : f_X9_behindVisits 142 (nI k) m3 = some (visAll (bout (μ 143) k l g) (18 + 21 * k), m4) := b5
          refine Sm.mk h hX (now_fr h1 h2 ff) ff.c83 h2 ⟨m4, ?_, s4, (((g1.tr g2).tr g3.t).tr g4).m⟩
          unfold f_X9_out
          rw [isShop9 hm, cal_some, b2_t c1, if_neg (by decide), isGood9, cal_some, b2_t c2, if_neg (by decide), e1, ho.1, cal_some, b2_t c3, if_neg (by decide), ho.2, cal_some, hl, e2, show eO (some l) = nI l from rfl, its9_s (by omega) hg6, cal_some, hm, if_neg c4, b1, cal_some, b3', cal_some, b4, cal_some, b5', cal_some]
      · refine Sm.er h (k := 3) (by omega) ?_ (fun m e _ => ?_)
        · unfold f_X8_out X8_out_J59
          simp only [Nat.zero_add]
          rw [hasShop7 h1, cal_some, b2_t c1, if_neg (by decide), isGood8, cal_some, b2_t c2, if_neg (by decide), e1, leftOf7 h1 h2 hk, cal_some]
          cases q : lft (μ 143) k with
          | none =>
            rw [if_pos (show eO none < 0 from by decide)]
            exact cal_e _
          | some l =>
            have hlk : l = k := Classical.byContradiction (fun hn => c3 ⟨l, q, hn⟩)
            rw [if_neg (show ¬ eO (some l) < 0 from nI_neg (by omega)), if_pos (show eO (some l) = nI k from by rw [hlk]; rfl)]
            exact cal_e _
        · have ho := hasOther9 e h2 hk
          unfold f_X9_out X9_out_J45
          rw [isShop9 e, cal_some, b2_t c1, if_neg (by decide), isGood9, cal_some, b2_t c2, if_neg (by decide), e1, ho.1, cal_some, b2_f c3, if_pos rfl]
          exact cal_e _
    · refine Sm.er h (k := 1) (by omega) ?_ (fun m e _ => ?_)
      · unfold f_X8_out X8_out_J18
        simp only [Nat.zero_add]
        rw [hasShop7 h1, cal_some, b2_t c1, if_neg (by decide), isGood8, cal_some, b2_f c2, if_pos rfl]
        exact cal_e _
      · unfold f_X9_out X9_out_J15
        rw [isShop9 e, cal_some, b2_t c1, if_neg (by decide), isGood9, cal_some, b2_f c2, if_pos rfl]
        exact cal_e _
  · refine Sm.er h (k := 1) (by omega) ?_ (fun m e _ => ?_)
    · unfold f_X8_out X8_out_J18
      simp only [Nat.zero_add]
      rw [hasShop7 h1, cal_some, b2_f c1, if_pos rfl]
      exact cal_e _
    · unfold f_X9_out X9_out_J15
      rw [isShop9 e, cal_some, b2_f c1, if_pos rfl]
      exact cal_e _
/-- into how many shops -/
def wk (σ : Nat → Int32) (c : Nat) : Nat → Nat → Int32 → Option Nat
  | 0, i, x => if x = 0 then some i else none
  | d + 1, i, x => if x = 0 then some i else wk σ c d (i + 1) (x &&& (maySet σ (plc σ c i) ^^^ (-1)))
theorem wk_0 (σ : Nat → Int32) (c : Nat) : ∀ d i, wk σ c d i 0 = some i
  | 0, _ => rfl
  | _ + 1, _ => rfl
def wkF (o : Option Nat) (E : Res) (m : Mem) : Res := match o with
  | some j => some (nI j, m)
  | none => E
theorem walk35 {σ : Nat → Int32} (hI : Inv σ) {c : Nat} (hc : c < nC σ) {μ : Mem} (h : RepW μ 1 σ) : ∀ d i (x : Int32) n, i + d = nS σ → d < n → (¬ x = 0 ∨ i = 0) → X8_walk_L35 n 0 (1 + 25 + c) x (nI i) μ = wkF (wk σ c d i x) (f_X8_error 0 2 μ) μ := by
  have h6 := hI.n6
  intro d
  induction d with
  | zero =>
    intro i x n hi hn hx
    obtain ⟨n, rfl⟩ : ∃ m, n = m + 1 := ⟨n - 1, by omega⟩
    show X8_walk_L35B _ 0 (1 + 25 + c) x (nI i) μ = wkF (if x = 0 then some i else none) _ μ
    unfold X8_walk_L35B X8_walk_J91 X8_walk_J104
    simp only [Nat.zero_add]
    rw [rd_n h, hI.s0, if_pos ((nI_leq (by omega) (by omega)).mpr (by omega))]
    by_cases q : x = 0
    · rw [if_pos q, if_pos q]
      have : i = 0 := hx.resolve_left (fun r => r q)
      rw [this]
      rfl
    · rw [if_neg q, if_neg q]
      exact cal_e _
  | succ d ih =>
    intro i x n hi hn hx
    obtain ⟨n, rfl⟩ : ∃ m, n = m + 1 := ⟨n - 1, by omega⟩
    show X8_walk_L35B _ 0 (1 + 25 + c) x (nI i) μ = wkF (if x = 0 then some i else wk σ c d (i + 1) (x &&& (maySet σ (plc σ c i) ^^^ (-1)))) _ μ
    unfold X8_walk_L35B X8_walk_J91 X8_walk_J104
    simp only [Nat.zero_add]
    rw [rd_n h, hI.s0, if_neg (fun q => absurd ((nI_leq (by omega) (by omega)).mp q) (by omega))]
    by_cases q : x = 0
    · rw [if_pos q, if_pos q, if_pos q]
      have : i = 0 := hx.resolve_left (fun r => r q)
      rw [this]
      rfl
    · have hfrom : μ (1 + 25 + c) 2 = σ (144 + 4 * c) := by
        rw [rd_cust h hI hc (by omega)]
        congr 1
        omega
      rw [if_neg q, if_neg q, hfrom, place7 (s := (σ, 0, 0)) h (VOk.rf hI 0) hI (by omega) (by omega), cal_some, mayGoods7 h hI (plc_lt (by omega)), cal_some, bnd_eq, bnd_eq, nI_s]
      by_cases e : x &&& (maySet σ (plc σ c i) ^^^ (-1)) = 0
      · rw [if_pos e, e, wk_0]
        rfl
      · rw [if_neg e]
        exact ih (i + 1) _ n (by omega) (by omega) (Or.inl e)
theorem shopOnW {c : Nat} {σ : Nat → Int32} {μ : Mem} (h : μ 143 = σ) (hI : Inv σ) (hc : c < nC σ) {i : Nat} (hi : i < nS σ) : f_X9_shopOn 142 (nI c) (nI i) μ = some (nI (plc σ c i), μ) := by
  have h6 := hI.n6
  have hc10 := hI.c10
  have hlt := Nat.mod_lt i (show 0 < nS σ by omega)
  have hne : ¬ nI (nS σ) = 0 := fun q => absurd ((eqI (x := 0) 0 rfl (by omega) (by omega : nS σ < 2 ^ 31)).mp q) (by omega)
  have h27 : X9_shopOn_J27 142 (nI c) (nI i) (nI (nS σ)) μ = some (nI (plc σ c i), μ) := by
    unfold X9_shopOn_J27 X9_shopOn_J49 plc
    rw [of9_2 h (by omega), cal_some, gd_nz hne, gd_nz hne, ((irm_all i (by omega) (nS σ) h6).resolve_left (by omega))]
    by_cases q : σ (144 + 4 * c) = 0
    · rw [if_pos q, if_pos q]
    · rw [if_neg q, if_neg q, nI_pred1 (by omega), nI_sub (by omega)]
  unfold f_X9_shopOn
  rw [show inb (0 : Int32) 516 = true from by decide, gd_t, s0_le h, bnd_eq, hI.s0, show inb (4 : Int32) 516 = true from by decide, gd_t, if_neg hne, h27, if_pos (c := nI i < nI (nS σ)) ((nI_ltI (by omega) (by omega)).mpr hi)]
  split <;> rfl
theorem walk23 {σ : Nat → Int32} (hI : Inv σ) {c : Nat} (hc : c < nC σ) {μ : Mem} (h : μ 143 = σ) : ∀ d i (x : Int32) n, i + d = nS σ → d < n → X9_walk_L23 n 142 (nI c) x (nI i) μ = wkF (wk σ c d i x) (f_X9_error 142 2 μ) μ := by
  have h6 := hI.n6
  intro d
  induction d with
  | zero =>
    intro i x n hi hn
    obtain ⟨n, rfl⟩ : ∃ m, n = m + 1 := ⟨n - 1, by omega⟩
    show X9_walk_L23B _ 142 (nI c) x (nI i) μ = wkF (if x = 0 then some i else none) _ μ
    unfold X9_walk_L23B X9_walk_J58 X9_walk_J71
    rw [show inb (0 : Int32) 516 = true from by decide, gd_t, s0_le h, hI.s0, if_pos ((nI_leq (by omega) (by omega)).mpr (show nS σ ≤ i by omega))]
    by_cases q : x = 0
    · rw [if_pos q, if_pos q, if_pos q]
      rfl
    · rw [if_neg q, if_neg q, if_neg q]
      exact cal_e _
  | succ d ih =>
    intro i x n hi hn
    obtain ⟨n, rfl⟩ : ∃ m, n = m + 1 := ⟨n - 1, by omega⟩
    show X9_walk_L23B _ 142 (nI c) x (nI i) μ = wkF (if x = 0 then some i else wk σ c d (i + 1) (x &&& (maySet σ (plc σ c i) ^^^ (-1)))) _ μ
    unfold X9_walk_L23B X9_walk_J58 X9_walk_J71
    by_cases q : x = 0
    · rw [if_pos q, if_pos q, if_pos q]
      rfl
    · have hms := maySell9 (μ := μ) (k := plc σ c i) (by rw [h]; exact hI) (by rw [h]; exact plc_lt (by omega))
      rw [h] at hms
      rw [if_neg q, if_neg q, show inb (0 : Int32) 516 = true from by decide, gd_t, s0_le h, hI.s0, if_neg (fun q => absurd ((nI_leq (by omega) (by omega)).mp q) (by omega)), shopOnW h hI hc (by omega), cal_some, hms, cal_some, bnd_eq, bnd_eq, nI_s]
      rw [if_neg q]
      exact ih (i + 1) _ n (by omega) (by omega)
theorem sim_walk {μ : Mem} (h : Rel μ) (x : Int32) : Sm (f_X8_walk 0 x μ) (f_X9_walk 142 x) := by
  obtain ⟨h1, h2, h3⟩ := id h
  have h6 := h2.n6
  have h10 := h2.c10
  by_cases c1 : (0 : Int32) ≤ x ∧ x ≤ μ 143 1 - 1
  · obtain ⟨c, hc, e1⟩ := h2.cu c1
    have hX : f_X8_walk 0 x μ = wkF (wk (μ 143) c (nS (μ 143)) 0 (μ 143 (142 + 4 * c))) (f_X8_error 0 2 μ) μ := by
      unfold f_X8_walk
      simp only [Nat.zero_add]
      rw [hasCust7 h1, cal_some, b2_t c1, if_neg (by decide), e1, inb_nI (by omega) (by omega), gd_t, clamp_nI (by omega), locD, bnd_eq, rd_cust h1 h2 hc (by omega : 0 < 4)]
      exact walk35 h2 hc h1 (nS (μ 143)) 0 _ FU (by omega) (by rw [FU_eq]; omega) (Or.inr rfl)
    have hY : ∀ m : Mem, m 143 = μ 143 → f_X9_walk 142 x m = wkF (wk (μ 143) c (nS (μ 143)) 0 (μ 143 (142 + 4 * c))) (f_X9_error 142 2 m) m := by
      intro m e
      unfold f_X9_walk
      rw [isCust9 e, cal_some, b2_t c1, if_neg (by decide), e1, of9_0 e (by omega), cal_some]
      exact walk23 h2 hc e (nS (μ 143)) 0 _ FU (by omega) (by rw [FU_eq]; omega)
    cases q : wk (μ 143) c (nS (μ 143)) 0 (μ 143 (142 + 4 * c)) with
    | some j =>
      rw [q] at hX hY
      exact Sm.mk h hX h1 (FrC.rf _) h2 ⟨μ, hY μ rfl, rfl, FrM.rf _⟩
    | none =>
      rw [q] at hX hY
      exact Sm.er h (k := 2) (by omega) hX (fun m e _ => hY m e)
  · refine Sm.er h (k := 1) (by omega) ?_ (fun m e _ => ?_)
    · unfold f_X8_walk
      simp only [Nat.zero_add]
      rw [hasCust7 h1, cal_some, b2_f c1, if_pos rfl]
      exact cal_e _
    · unfold f_X9_walk
      rw [isCust9 e, cal_some, b2_f c1, if_pos rfl]
      exact cal_e _
end
