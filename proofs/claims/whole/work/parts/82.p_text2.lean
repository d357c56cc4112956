/-! PURE 47: a text, both -/
section
theorem isUse8 (x : Int32) (m : Mem) : f_X8_isUse x m = some (b2 ((0 : Int32) ≤ x ∧ x ≤ 1), m) := by
  unfold f_X8_isUse
  rw [within_eq, cal_some, b2_isb, gd_t]
theorem t6_ok {σ : Nat → Int32} (hI : Inv σ) : Inv (upd σ 6 0) ∧ ∀ {μ : Mem}, RepW μ 1 σ → RepW (mset μ 1 12 0) 1 (upd σ 6 0) := by
  constructor
  · refine hI.cnts (fun i a b c d => upd_ne c) (by rw [upd_ne (by omega)]; exact hI.2.1) (by rw [upd_same]; unfold rg; decide) (by rw [upd_ne (by omega)]; exact hI.r7) (fun c hc => ?_) (fun i hi => ?_)
    · have h10 := hI.c10
      unfold nC at hc
      rw [upd_ne (by omega)] at hc
      have hc2 : c < nC σ := hc
      exact (hI.cust c hc2).eq (by omega) (fun i a b => upd_ne (by omega))
    · unfold nT at hi
      rw [upd_same, show (0 : Int32).toNatClampNeg = 0 from by decide] at hi
      omega
  · intro μ h
    refine ⟨?_, h.2.1.wr hI.n6 (i := 6) (p := (0, 12)) rfl (by omega) _, h.2.2.wr hI.t60 (i := 6) (p := (0, 12)) rfl _⟩
    refine (h.1.wr (i := 6) (p := (0, 12)) rfl _).mono (fun j hj => Or.inl ?_)
    unfold lve at hj ⊢
    unfold nS nC nT nW at hj ⊢
    rw [upd_ne (by omega), upd_ne (by omega), upd_same, upd_ne (by omega)] at hj
    exact ⟨hj.1, hj.2.1, fun a b => absurd (hj.2.2.1 a b) (by rw [show (0 : Int32).toNatClampNeg = 0 from by decide]; omega), hj.2.2.2⟩
theorem Rel.tx {μ μ2 : Mem} (h : Rel μ) (he : ∀ l, oc l → l ≠ 142 → μ2 l = μ l) (h3 : μ2 142 3 = μ 142 3) (h13 : μ2 142 13 = μ 142 13) {σ' : Nat → Int32} (hs : μ2 143 = σ') (hI : Inv σ') (hR : RepW μ2 1 σ') : Rel μ2 := by
  obtain ⟨-, -, ⟨⟨i1, i2⟩, i3, ⟨i4, i5, i6⟩, i7⟩⟩ := h
  refine ⟨by rw [hs]; exact hR, by rw [hs]; exact hI, ⟨⟨?_, fun hn => ?_⟩, fun k hk => ?_, ⟨?_, ?_, fun j hj => ?_⟩, fun i hi => ?_⟩⟩
  · rw [he 0 (by unfold oc; omega) (by omega), h3]
    exact i1
  · rw [h3] at hn
    rw [he 144 (by unfold oc; omega) (by omega)]
    exact ⟨(i2 hn).1.fr (i2 hn).2 (fun l a b => he l (by unfold oc; omega) (by omega)), (i2 hn).2⟩
  · rw [he 133 (by unfold oc; omega) (by omega), he 146 (by unfold oc; omega) (by omega)]
    exact i3 k hk
  · rw [he 128 (by unfold oc; omega) (by omega), h13]
    exact i4
  · rw [h13]
    exact i5
  · rw [h13] at hj
    rw [he 129 (by unfold oc; omega) (by omega), he 150 (by unfold oc; omega) (by omega)]
    exact i6 j hj
  · have := i7 i hi
    unfold ShOk at this ⊢
    rw [he (134 + 2 * i) (by unfold oc; omega) (by omega), he (135 + 2 * i) (by unfold oc; omega) (by omega), he 151 (by unfold oc; omega) (by omega), he 152 (by unfold oc; omega) (by omega), he 153 (by unfold oc; omega) (by omega)]
    exact this
theorem text104 {to L : Nat} (hto : to + 125 ≤ 516) (hL : L ≤ 61) : ∀ d k (μ : Mem) n, k + d = 2 * L → d < n → μ 142 7 = nI L → X9_text_L104 n 142 (nI to) (nI k) μ = some (1, sR μ 143 (fun j => if to + 1 + k ≤ j ∧ j < to + 1 + 2 * L then μ 147 (j - (to + 1)) else μ 143 j)) := by
  intro d
  induction d with
  | zero =>
    intro k μ n hk hn h7
    obtain ⟨n, rfl⟩ : ∃ m, n = m + 1 := ⟨n - 1, by omega⟩
    show X9_text_L104B _ 142 (nI to) (nI k) μ = _
    unfold X9_text_L104B
    rw [h7, mu_2, if_pos ((nI_leq (by omega) (by omega)).mpr (by omega))]
    have : (fun j => if to + 1 + k ≤ j ∧ j < to + 1 + 2 * L then μ 147 (j - (to + 1)) else μ 143 j) = μ 143 := funext (fun j => if_neg (by omega))
    rw [this, sR_id]
  | succ d ih =>
    intro k μ n hk hn h7
    obtain ⟨n, rfl⟩ : ∃ m, n = m + 1 := ⟨n - 1, by omega⟩
    have e : nI to + 1 + nI k = nI (to + 1 + k) := by rw [nI_s, nI_add]
    show X9_text_L104B _ 142 (nI to) (nI k) μ = _
    unfold X9_text_L104B
    rw [h7, mu_2, if_neg (fun q => absurd ((nI_leq (by omega) (by omega)).mp q) (by omega)), inb_nI (k := k) (by omega) (by omega), gd_t, e, inb_nI (k := to + 1 + k) (by omega) (by omega), gd_t, bnd_eq, bnd_eq, nI_s, clamp_nI (k := k) (by omega), clamp_nI (k := to + 1 + k) (by omega), show (142 + 1 : Nat) = 143 from rfl, show (142 + 5 : Nat) = 147 from rfl, ih (k + 1) _ n (by omega) (by omega) (by rw [mset_row (by omega)]; exact h7), mset_sR, sR_sR, sR_same, sR_ne (by omega)]
    have hf : (fun j => if to + 1 + (k + 1) ≤ j ∧ j < to + 1 + 2 * L then μ 147 (j - (to + 1)) else upd (μ 143) (to + 1 + k) (μ 147 k) j) = (fun j => if to + 1 + k ≤ j ∧ j < to + 1 + 2 * L then μ 147 (j - (to + 1)) else μ 143 j) := by
      funext j
      by_cases e2 : j = to + 1 + k
      · rw [e2, if_neg (by omega), if_pos (by omega), upd_same]
        congr 1
        omega
      · rw [upd_ne e2]
        by_cases c : to + 1 + k ≤ j ∧ j < to + 1 + 2 * L
        · rw [if_pos c, if_pos (by omega)]
        · rw [if_neg c, if_neg (by omega)]
    rw [hf]
theorem sim_text {μ : Mem} (h : Rel μ) (x : Int32) : Sm (f_X8_text 0 x μ) (f_X9_text 142 x) := by
  obtain ⟨h1, h2, h3⟩ := id h
  by_cases c1 : (0 : Int32) ≤ x ∧ x ≤ 1
  · obtain ⟨u, -, hu1, e1⟩ := lit_rg 0 1 rfl rfl (by omega) (by omega) c1
    subst e1
    have hu : u < 2 := by omega
    have h60 := h2.T60
    have hs6 := h2.s6
    obtain ⟨T, hTd⟩ : ∃ T : Nat → Int32, T = fun j => μ 143 (432 + j) := ⟨_, rfl⟩
    obtain ⟨N, hNd⟩ : ∃ N, N = nT (μ 143) := ⟨_, rfl⟩
    have hTP : TPk T N u (μ 143) := ⟨by omega, by rw [hNd]; exact hs6, fun j _ => by rw [hTd], fun j hj => by rw [hTd]; exact h2.tape j (by omega), hu⟩
    have hN60 := hTP.1
    have hcell : ∀ j, j < N → μ (1 + 5) j = T j := fun j hj => by
      rw [hTd]
      exact h1.1 _ _ (am_tape j (by omega)) ⟨fun _ a => absurd a (by omega), fun _ a => absurd a (by omega), fun _ _ => by omega, fun a => absurd a (by omega)⟩
    obtain ⟨m4, a1, a2, a3⟩ := faultIn2 hu hTP.1 hTP.2.2.2.1 hcell
    obtain ⟨hI6, hR6⟩ := t6_ok h2
    have r4 : RepW m4 1 (μ 143) := h1.fr h2 (fun l p q => a2 l (by omega) (by omega) (by omega))
    have r5 := hR6 r4
    obtain ⟨m5, hm5⟩ : ∃ m5, m5 = mset m4 1 12 0 := ⟨_, rfl⟩
    rw [← hm5] at r5
    have f5 : ∀ l, l ≠ 1 → l ≠ 125 → l ≠ 126 → l ≠ 127 → m5 l = μ l := fun l p q r s => by rw [hm5, mset_row p]; exact a2 l q r s
    have hX0 : f_X8_text 0 (nI u) μ = (if fR (flt T N u N 0 ([], [], true, 0)) < 0 then cal (f_X1_take (1 + 35 + 3 * u) 126 60 (m5 125 1) m5) (fun r7 m8 => some (1, m8)) else some (-10 - fR (flt T N u N 0 ([], [], true, 0)), m5)) := by
      unfold f_X8_text
      simp only [Nat.zero_add]
      rw [isUse8, cal_some, b2_t c1, if_neg (by decide), rd_taped h1, hTP.2.1, a1, cal_some, bnd_eq, ← hm5, inb_nI hu (by omega), gd_t, clamp_nI (by omega), locE, show (125 + 1 : Nat) = 126 from rfl]
    have hRun : flt T N u N 0 ([], [], true, 0) = Run T N u ([], [], true, 0) 0 := rfl
    rw [hRun] at hX0 a3
    -- the model, from any memory that the class leaves
    have hmod : ∀ m : Mem, m 143 = μ 143 → (∃ m1 i' M P C dg, f_X9_whole (f_X9_one RF) 142 (mset (mset (mset (mset m 142 8 (nI u)) 142 5 0) 142 6 0) 142 7 0) = some (1, m1) ∧ MT u (μ 143) m i' 0 M m1 ∧ emi P C = enc u M ∧ (∀ p, p ∈ P → 1 ≤ bi p ∧ p ≠ 40) ∧ M.length ≤ i' ∧ i' ≤ N ∧ MOk u M ∧ hM M = 1 ∧ Run T N u ([], [], true, 0) 0 = Run T N u (C, P, false, dg) i' ∧ Fol T N 1 i' P dg) ∨ (∃ m1 i', f_X9_whole (f_X9_one RF) 142 (mset (mset (mset (mset m 142 8 (nI u)) 142 5 0) 142 6 0) 142 7 0) = some (0, m1) ∧ MW (μ 143) m i' m1 ∧ i' ≤ N ∧ Run T N u ([], [], true, 0) 0 = Sum.inl i') := by
      intro m e143
      have hMT : MT u (μ 143) m 0 0 [] (mset (mset (mset (mset m 142 8 (nI u)) 142 5 0) 142 6 0) 142 7 0) := by
        refine ⟨?_, ?_, ?_, ?_, True.intro, ?_, fun l p q => ?_, fun f hf => ?_⟩
        · rw [mset_ne (by omega), mset_ne (by omega), mset_self]; rfl
        · rw [mset_ne (by omega), mset_self]; rfl
        · rw [mset_self]; rfl
        · rw [mset_ne (by omega), mset_ne (by omega), mset_ne (by omega), mset_self]
        · rw [mset_row (by omega), mset_row (by omega), mset_row (by omega), mset_row (by omega)]; exact e143
        · rw [mset_row p, mset_row p, mset_row p, mset_row p]
        · rw [mset_ne (by omega), mset_ne (by omega), mset_ne (by omega), mset_ne (by omega)]
      rcases wholeC hTP (oneC hTP RF) 0 0 [] [] _ (by decide) (by omega) rfl (by simp) (by omega) True.intro (by show (0 : Int) ≤ 0; omega) (fun _ => True.intro) hMT with ⟨m1, ⟨d1, i', M, C, P, dg, g1, g2, g3, g4, g5, g6, g7, g8, g9, g10⟩ | ⟨d1, i', g1, g2, g3⟩⟩
      · rw [List.append_nil] at g9 g10
        exact Or.inl ⟨m1, i', M, P, C, dg, d1, g1, g2, g3, by simpa using g4, g6, g7, g8, g9, g10⟩
      · exact Or.inr ⟨m1, i', d1, g1, g2, g3⟩
    have hY0 : ∀ m : Mem, f_X9_text 142 (nI u) m = cal (f_X9_whole (f_X9_one RF) 142 (mset (mset (mset (mset m 142 8 (nI u)) 142 5 0) 142 6 0) 142 7 0)) (fun r7 m8 => (if r7 = 0 then X9_text_J61 142 (nI u) 0 m8 else (if m8 142 5 = m8 143 6 then X9_text_J61 142 (nI u) 1 m8 else X9_text_J61 142 (nI u) 0 m8))) := by
      intro m
      unfold f_X9_text X9_text_J60
      rw [in_eq, cal_some, b2_t c1, if_neg (by decide), bnd_eq, bnd_eq, bnd_eq, bnd_eq]
      rfl
    -- a fault
    have hfault : ∀ p, p ≤ N → Run T N u ([], [], true, 0) 0 = Sum.inl p → (∃ m1, f_X9_text 142 (nI u) m5 = X9_text_J61 142 (nI u) 0 m1 ∧ MW (μ 143) m5 p m1) → Sm (f_X8_text 0 (nI u) μ) (f_X9_text 142 (nI u)) := by
      intro p hp hr ⟨m1, y1, w1, w2, w3, w4⟩
      rw [hr] at hX0
      have hX : f_X8_text 0 (nI u) μ = some (-10 - nI p, m5) := by
        rw [hX0]
        show (if nI p < 0 then _ else some (-10 - nI p, m5)) = _
        rw [if_neg (nI_neg (by omega))]
      have hY : f_X9_text 142 (nI u) m5 = some (-10 - nI p, sR m1 143 (upd (μ 143) 6 0)) := by
        rw [y1]
        unfold X9_text_J61
        rw [show inb (6 : Int32) 516 = true from by decide, gd_t, bnd_eq, if_pos rfl, show (6 : Int32).toNatClampNeg = 6 from by decide, show (142 + 1 : Nat) = 143 from rfl, mset_row (by omega), w1, mset_sR, w2]
      have hfr : ∀ l, l ≠ 142 → l ≠ 143 → l ≠ 147 → sR m1 143 (upd (μ 143) 6 0) l = m5 l := fun l p q r => by rw [sR_ne q]; exact w3 l p r
      refine ⟨_, m5, _, hX, hY, h.tx (fun l a b => ?_) ?_ ?_ (sR_same _ _ _) hI6 (r5.fr hI6 (fun l a b => hfr l (by omega) (by omega) (by omega)))⟩
      · unfold oc at a
        rw [hfr l b (by omega) (by omega), f5 l (by omega) (by omega) (by omega) (by omega)]
      · rw [sR_ne (by omega), w4 3 (by omega), f5 142 (by omega) (by omega) (by omega) (by omega)]
      · rw [sR_ne (by omega), w4 13 (by omega), f5 142 (by omega) (by omega) (by omega) (by omega)]
    have e143 : m5 143 = μ 143 := f5 143 (by omega) (by omega) (by omega) (by omega)
    rcases hmod m5 e143 with ⟨m1, i', M, P, C, dg, g1, g2, g3, g4, g5, g6, g7, g8, g9, g10⟩ | ⟨m1, i', g1, g2, g3, g4⟩
    · have hcb : cbr P = 0 := by
        have := cbr_app P [] (fun p hp => (g4 p hp).2)
        rw [List.append_nil] at this
        exact this
      rcases (show i' < N ∨ i' = N by omega) with q | q
      · have hr : Run T N u ([], [], true, 0) 0 = Sum.inl i' := g9.trans (run_none q (tk_stuck q g10 (fun _ => hcb)))
        refine hfault i' (by omega) hr ⟨m1, ?_, g2.w⟩
        rw [hY0, g1, cal_some, if_neg (by decide), g2.1, g2.2.2.2.2.2.1, hTP.2.1, if_neg (nI_ne (by omega) (by omega) (by omega))]
      · subst q
        have hrel := relS_app (l := 1) (G := []) True.intro P C (fun p hp => (g4 p hp).1)
        rw [List.append_nil] at hrel
        have hr : Run T i' u ([], [], true, 0) 0 = Sum.inr (enc u M) := by
          rw [g9, run_end]
          show (if false = true ∨ 0 < cbr P then Sum.inl i' else Sum.inr (relS 1 P C).2) = _
          rw [if_neg (by rintro (w | w); exact Bool.false_ne_true w; omega), hrel, g3]
        obtain ⟨k1, k2, k3⟩ := a3 _ hr
        have hel : (enc u M).length = M.length := by unfold enc; rw [List.length_map]
        rw [hel] at k1
        have hML : M.length ≤ 60 := by omega
        have k1' : m5 125 1 = nI M.length := by rw [hm5, mset_row (by omega)]; exact k1
        have k2' : pil (m5 126) (enc u M) := by rw [hm5, mset_row (by omega)]; exact k2
        obtain ⟨m6, t1, t2, t3, t4, t5⟩ := take1 (d := 1 + 35 + 3 * u) (s := 126) (n := M.length) (N := 60) (by omega) (by omega) hML hML (by omega) m5
        have hX : f_X8_text 0 (nI u) μ = some (1, m6) := by
          rw [hX0, hr]
          show (if (-1 : Int32) < 0 then cal (f_X1_take (1 + 35 + 3 * u) 126 60 (m5 125 1) m5) (fun r7 m8 => some (1, m8)) else _) = _
          rw [if_pos (by decide), k1', t1, cal_some]
        have e143' : m6 143 = μ 143 := by rw [t2 143 (by omega) (by omega)]; exact e143
        rcases hmod m6 e143' with ⟨n1, i2, M2, P2, C2, dg2, j1, j2, j3, j4, j5, j6, j7, j8, j9, j10⟩ | ⟨n1, i2, j1, j2, j3, j4⟩
        · have hcb2 : cbr P2 = 0 := by
            have := cbr_app P2 [] (fun p hp => (j4 p hp).2)
            rw [List.append_nil] at this
            exact this
          have hi2 : i2 = i' := by
            rcases (show i2 < i' ∨ i2 = i' by omega) with w | w
            · have := j9.trans (run_none w (tk_stuck w j10 (fun _ => hcb2)))
              rw [hr] at this
              cases this
            · exact w
          subst hi2
          have hrel2 := relS_app (l := 1) (G := []) True.intro P2 C2 (fun p hp => (j4 p hp).1)
          rw [List.append_nil] at hrel2
          have henc : enc u M2 = enc u M := by
            have : Run T i2 u ([], [], true, 0) 0 = Sum.inr (enc u M2) := by
              rw [j9, run_end]
              show (if false = true ∨ 0 < cbr P2 then Sum.inl i2 else Sum.inr (relS 1 P2 C2).2) = _
              rw [if_neg (by rintro (w | w); exact Bool.false_ne_true w; omega), hrel2, j3]
            rw [hr] at this
            exact (Sum.inr.inj this).symm
          have hlen2 : M2.length = M.length := by
            have := congrArg List.length henc
            rw [hel] at this
            unfold enc at this
            rw [List.length_map] at this
            exact this
          have hM2 : M2.length ≤ 60 := by omega
          obtain ⟨x1, x2, x3, x4, x5, x6, x7, x8⟩ := j2
          -- what the model lays
          obtain ⟨σ', hσ'⟩ : ∃ σ' : Nat → Int32, σ' = fun j => if 182 + 125 * u + 1 + 0 ≤ j ∧ j < 182 + 125 * u + 1 + 2 * M2.length then n1 147 (j - (182 + 125 * u + 1)) else upd (upd (μ 143) 6 0) (182 + 125 * u) (nI M2.length) j := ⟨_, rfl⟩
          have hY : f_X9_text 142 (nI u) m6 = some (1, sR n1 143 σ') := by
            have hto : (182 : Int32) + 125 * nI u = nI (182 + 125 * u) := by
              show nI 182 + nI 125 * nI u = _
              rw [nI_mul, nI_add]
            obtain ⟨n2, hn2⟩ : ∃ n2, n2 = sR n1 143 (upd (upd (μ 143) 6 0) (182 + 125 * u) (nI M2.length)) := ⟨_, rfl⟩
            have n2_142 : n2 142 = n1 142 := by rw [hn2]; exact sR_ne (by omega)
            have n2_147 : n2 147 = n1 147 := by rw [hn2]; exact sR_ne (by omega)
            have n2_143 : n2 143 = upd (upd (μ 143) 6 0) (182 + 125 * u) (nI M2.length) := by rw [hn2]; exact sR_same _ _ _
            have h104 := text104 (to := 182 + 125 * u) (L := M2.length) (by omega) (by omega) (2 * M2.length) 0 n2 FU (by omega) (by rw [FU_eq]; omega) (by rw [n2_142]; exact x3)
            rw [n2_143, n2_147, ← hσ', hn2, sR_sR, ← hn2] at h104
            rw [hY0, j1, cal_some, if_neg (by decide), x1, x6, hTP.2.1, if_pos rfl]
            unfold X9_text_J61
            rw [show inb (6 : Int32) 516 = true from by decide, gd_t, bnd_eq, if_neg (by decide), bnd_eq, hto, inb_nI (by omega) (by omega), gd_t, bnd_eq, show (6 : Int32).toNatClampNeg = 6 from by decide, clamp_nI (by omega), show (142 + 1 : Nat) = 143 from rfl, mset_row (show (142 : Nat) ≠ 143 by omega), x3, mset_sR n1, x6, mset_sR, sR_same, sR_sR, ← hn2]
            exact h104
          have ho : ∀ j, j < 182 + 125 * u ∨ 183 + 125 * u + 2 * M2.length ≤ j → σ' j = upd (μ 143) 6 0 j := fun j hj => by
            rw [hσ']
            show (if 182 + 125 * u + 1 + 0 ≤ j ∧ j < 182 + 125 * u + 1 + 2 * M2.length then n1 147 (j - (182 + 125 * u + 1)) else upd (upd (μ 143) 6 0) (182 + 125 * u) (nI M2.length) j) = _
            rw [if_neg (by omega), upd_ne (by omega)]
          have h0 : σ' (182 + 125 * u) = nI M2.length := by
            rw [hσ']
            show (if 182 + 125 * u + 1 + 0 ≤ 182 + 125 * u ∧ 182 + 125 * u < 182 + 125 * u + 1 + 2 * M2.length then n1 147 (182 + 125 * u - (182 + 125 * u + 1)) else upd (upd (μ 143) 6 0) (182 + 125 * u) (nI M2.length) (182 + 125 * u)) = _
            rw [if_neg (by omega), upd_same]
          have hk : ∀ k, k < 2 * M2.length → σ' (183 + 125 * u + k) = n1 147 k := fun k hk => by
            rw [hσ']
            show (if 182 + 125 * u + 1 + 0 ≤ 183 + 125 * u + k ∧ 183 + 125 * u + k < 182 + 125 * u + 1 + 2 * M2.length then n1 147 (183 + 125 * u + k - (182 + 125 * u + 1)) else upd (upd (μ 143) 6 0) (182 + 125 * u) (nI M2.length) (183 + 125 * u + k)) = _
            rw [if_pos (by omega)]
            congr 1
            omega
          have htx : TextOk u (txt σ' u) := by
            refine TextOk_of j7 j8 hM2 ?_ ?_
            · show σ' (182 + 125 * u + 0) = _
              rw [Nat.add_zero]
              exact h0
            · refine pil2_eq M2 (fun k hk' => ?_) x5
              show σ' (182 + 125 * u + (1 + k)) = n1 147 k
              rw [← hk k hk']
              congr 1
              omega
          have hI' : Inv σ' := by
            refine hI6.txts (fun j hj => ho j (by omega)) (fun v hv => ?_)
            by_cases e : v = u
            · rw [e]
              exact htx
            · refine (hI6.text v hv).eq (fun j hj => ?_)
              show σ' (182 + 125 * v + j) = upd (μ 143) 6 0 (182 + 125 * v + j)
              exact ho _ (by omega)
          have r6 : RepW m6 1 σ' := by
            have hlv : lve σ' = lve (upd (μ 143) 6 0) := by
              unfold lve nS nC nT nW
              rw [ho 0 (by omega), ho 1 (by omega), ho 6 (by omega), ho 7 (by omega)]
            have hns : nS σ' = nS (upd (μ 143) 6 0) := by
              unfold nS
              rw [ho 0 (by omega)]
            have hn6 := hI6.n6
            refine ⟨fun j p hj hl => ?_, fun k hk g hg => ?_, fun v hv => ⟨?_, fun j hj => ?_⟩⟩
            · rw [hlv] at hl
              have hb := am_bk hj
              rw [ho j (by omega), t2 _ (by omega) (by omega)]
              exact r5.1 j p hj hl
            · rw [hns] at hk
              rw [ho _ (by omega), t2 _ (by omega) (by omega)]
              exact r5.2.1 k hk g hg
            · by_cases e : v = u
              · rw [e, h0, t3, hlen2]
              · rw [ho _ (by omega), t2 _ (by omega) (by omega)]
                exact (r5.2.2 v hv).1
            · by_cases e : v = u
              · subst e
                rw [h0, clamp_nI (by omega)] at hj
                have hc := enc_at (u := v) (f := m5 126) (g := n1 147) M2 (by rw [henc]; exact k2') x5 j hj
                have ht5 := t5 j (by omega)
                rw [show 1 + 36 + 3 * v = 1 + 35 + 3 * v + 1 by omega, ht5, hc, hk (2 * j) (by omega), ← hk (2 * j + 1) (by omega)]
                congr 1
                · congr 1
                  omega
              · have hoth : 183 + 125 * v + 2 * j < 182 + 125 * u ∨ 183 + 125 * u + 2 * M2.length ≤ 183 + 125 * v + 2 * j := by
                  rw [ho (182 + 125 * v) (by omega)] at hj
                  have := hI6.t60 v hv
                  omega
                have hoth2 : 184 + 125 * v + 2 * j < 182 + 125 * u ∨ 183 + 125 * u + 2 * M2.length ≤ 184 + 125 * v + 2 * j := by
                  rw [ho (182 + 125 * v) (by omega)] at hj
                  have := hI6.t60 v hv
                  omega
                rw [ho (182 + 125 * v) (by omega)] at hj
                rw [ho _ hoth, ho _ hoth2, t2 _ (by omega) (by omega)]
                exact (r5.2.2 v hv).2 j hj
          have hfr : ∀ l, l ≠ 142 → l ≠ 143 → l ≠ 147 → sR n1 143 σ' l = m6 l := fun l p q r => by rw [sR_ne q]; exact x7 l p r
          refine ⟨1, m6, _, hX, hY, h.tx (fun l a b => ?_) ?_ ?_ (sR_same _ _ _) hI' (r6.fr hI' (fun l a b => hfr l (by omega) (by omega) (by omega)))⟩
          · unfold oc at a
            rw [hfr l b (by omega) (by omega), t2 l (by omega) (by omega), f5 l (by omega) (by omega) (by omega) (by omega)]
          · rw [sR_ne (by omega), x8 3 (by omega), t2 142 (by omega) (by omega), f5 142 (by omega) (by omega) (by omega) (by omega)]
          · rw [sR_ne (by omega), x8 13 (by omega), t2 142 (by omega) (by omega), f5 142 (by omega) (by omega) (by omega) (by omega)]
        · rw [hr] at j4
          cases j4
    · refine hfault i' g3 g4 ⟨m1, ?_, g2⟩
      rw [hY0, g1, cal_some, if_pos rfl]
  · refine Sm.er h (k := 1) (by omega) ?_ (fun m e _ => ?_)
    · unfold f_X8_text
      rw [isUse8, cal_some, b2_f c1, if_pos rfl]
      exact cal_e _
    · unfold f_X9_text
      rw [in_eq, cal_some, b2_f c1, if_pos rfl]
      exact cal_e _
end
