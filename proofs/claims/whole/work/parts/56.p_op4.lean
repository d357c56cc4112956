/-! PURE 21: counts, images, untold texts -/
section OPS4
variable {μ : Mem}
theorem sim_count (h : Rel μ) (x : Int32) : Sm (f_X8_count 0 x μ) (f_X9_count 142 x) := by
  obtain ⟨h1, h2, h3⟩ := id h
  have h6 := h2.n6
  have hY : ∀ m, m 143 = μ 143 → f_X9_count 142 x m = cnF x (prs (μ 143)) m := fun m e => count4 e h2 x (nS (μ 143)) 0 0 FU (by omega) (by rw [FU_eq]; omega)
  have hX : f_X8_count 0 x μ = (if x = 0 then some (μ 143 0, μ) else if x = 1 then some (μ 143 1, μ) else if x = 2 then some (μ 143 2, μ) else if x = 3 then some (μ 143 3, μ) else if x = 4 then some (μ 143 4, μ) else if x = 5 then some (μ 143 5, μ) else if x = 6 then some (prs (μ 143), μ) else if x = 7 then some (μ 143 6, μ) else if x = 8 then some (μ 143 7, μ) else if x = 9 then some (μ 142 13, μ) else if x = 10 then some (μ 143 8, μ) else if (11 : Int32) ≤ x ∧ x ≤ 16 then some (μ 143 (10 + (x - 11).toNatClampNeg), μ) else f_X8_error 0 1 μ) := by
    have h16 : (if b2 ((0 : Int32) ≤ x - 11 ∧ x - 11 ≤ 5) = 0 then cal (f_X8_error 0 1 μ) (fun r14 m15 => X8_count_J178 r14 m15) else gd (inb (x - 11) 6) (X8_count_J178 (μ (1 + 1) (x - 11).toNatClampNeg) μ)) = (if (11 : Int32) ≤ x ∧ x ≤ 16 then some (μ 143 (10 + (x - 11).toNatClampNeg), μ) else f_X8_error 0 1 μ) := by
      unfold X8_count_J178
      by_cases c : (0 : Int32) ≤ x - 11 ∧ x - 11 ≤ 5
      · obtain ⟨j, -, hj, e⟩ := lit_rg 0 5 rfl rfl (by omega) (by omega) c
        rw [b2_t c, if_neg (by decide), if_pos (sub11.mp c), e, inb_nI (by omega) (by omega), gd_t, clamp_nI (by omega), rd_cost h1 (by omega)]
      · rw [b2_f c, if_pos rfl, if_neg (fun q => c (sub11.mpr q))]
        exact cal_e _
    unfold f_X8_count
    rw [isGood8, cal_some, Nat.zero_add, Nat.zero_add, h16, purses7 h1 h2, cal_some, rd_n h1, rd_c h1, rd_days h1, rd_sales h1, rd_ring h1, rd_law h1, rd_taped h1, rd_waits h1, rd_z h1, h3.2.2.1.1]
  by_cases c : ¬ x = 0 ∧ ¬ x = 1 ∧ ¬ x = 2 ∧ ¬ x = 3 ∧ ¬ x = 4 ∧ ¬ x = 5 ∧ ¬ x = 6 ∧ ¬ x = 7 ∧ ¬ x = 8 ∧ ¬ x = 9 ∧ ¬ x = 10 ∧ ¬ ((11 : Int32) ≤ x ∧ x ≤ 16)
  · obtain ⟨a0, a1, a2, a3, a4, a5, a6, a7, a8, a9, a10, a11⟩ := c
    refine Sm.er h (k := 1) (by omega) ?_ (fun m e _ => ?_)
    · rw [hX, if_neg a0, if_neg a1, if_neg a2, if_neg a3, if_neg a4, if_neg a5, if_neg a6, if_neg a7, if_neg a8, if_neg a9, if_neg a10, if_neg a11]
      rfl
    · rw [hY m e]
      unfold cnF
      rw [if_neg a0, if_neg a1, if_neg a2, if_neg a3, if_neg a4, if_neg a5, if_neg a6, if_neg a7, if_neg a8, if_neg a9, if_neg a10, if_neg a11]
      rfl
  · have : ∃ r, f_X8_count 0 x μ = some (r, μ) ∧ f_X9_count 142 x μ = some (r, μ) := by
      rw [hX, hY μ rfl]
      unfold cnF
      by_cases a0 : x = 0
      · rw [if_pos a0, if_pos a0]; exact ⟨_, rfl, rfl⟩
      rw [if_neg a0, if_neg a0]
      by_cases a1 : x = 1
      · rw [if_pos a1, if_pos a1]; exact ⟨_, rfl, rfl⟩
      rw [if_neg a1, if_neg a1]
      by_cases a2 : x = 2
      · rw [if_pos a2, if_pos a2]; exact ⟨_, rfl, rfl⟩
      rw [if_neg a2, if_neg a2]
      by_cases a3 : x = 3
      · rw [if_pos a3, if_pos a3]; exact ⟨_, rfl, rfl⟩
      rw [if_neg a3, if_neg a3]
      by_cases a4 : x = 4
      · rw [if_pos a4, if_pos a4]; exact ⟨_, rfl, rfl⟩
      rw [if_neg a4, if_neg a4]
      by_cases a5 : x = 5
      · rw [if_pos a5, if_pos a5]; exact ⟨_, rfl, rfl⟩
      rw [if_neg a5, if_neg a5]
      by_cases a6 : x = 6
      · rw [if_pos a6, if_pos a6]; exact ⟨_, rfl, rfl⟩
      rw [if_neg a6, if_neg a6]
      by_cases a7 : x = 7
      · rw [if_pos a7, if_pos a7]; exact ⟨_, rfl, rfl⟩
      rw [if_neg a7, if_neg a7]
      by_cases a8 : x = 8
      · rw [if_pos a8, if_pos a8]; exact ⟨_, rfl, rfl⟩
      rw [if_neg a8, if_neg a8]
      by_cases a9 : x = 9
      · rw [if_pos a9, if_pos a9]; exact ⟨_, rfl, rfl⟩
      rw [if_neg a9, if_neg a9]
      by_cases a10 : x = 10
      · rw [if_pos a10, if_pos a10]; exact ⟨_, rfl, rfl⟩
      rw [if_neg a10, if_neg a10]
      have a11 : (11 : Int32) ≤ x ∧ x ≤ 16 := Classical.byContradiction (fun q => c ⟨a0, a1, a2, a3, a4, a5, a6, a7, a8, a9, a10, q⟩)
      rw [if_pos a11, if_pos a11]
      exact ⟨_, rfl, rfl⟩
    obtain ⟨r, x1, x2⟩ := this
    exact Sm.mk h x1 h1 (FrC.rf _) h2 ⟨μ, x2, rfl, FrM.rf _⟩
theorem crr_lt (f g : Nat → Int32) : ∀ i, i < 516 → crr f g i = f i := fun i hi => if_pos hi
theorem sim_image (h : Rel μ) : Sm (f_X8_image 0 μ) (f_X9_image 142) := by
  obtain ⟨h1, h2, h3⟩ := id h
  obtain ⟨μ1, a1, r1, f1⟩ := copy7 (w := 42) (v := 1) (by omega) h1 h2
  obtain ⟨⟨i1, i2⟩, i3, i4, i5⟩ := h3
  have e0 : μ1 0 = μ 0 := f1 0 (by omega)
  have hX : f_X8_image 0 μ = some (μ 0 8 + 1, mset μ1 0 8 (μ 0 8 + 1)) := by
    unfold f_X8_image
    rw [Nat.zero_add, Nat.zero_add, a1, cal_some, bnd_eq, e0, mset_self]
  generalize hm : mset μ1 0 8 (μ 0 8 + 1) = m1 at hX
  have c0 : m1 0 8 = μ 0 8 + 1 := by rw [← hm]; exact mset_self
  have co : ∀ l, l ≠ 0 → (l < 42 ∨ 83 ≤ l) → m1 l = μ l := fun l a b => by rw [← hm, mset_row a]; exact f1 l (by omega)
  have cw : ∀ l, l ≠ 0 → m1 l = μ1 l := fun l a => by rw [← hm, mset_row a]
  have hcar := carry9 (a := 143) (b := 144) (by omega) m1
  generalize hm2 : sR m1 144 (crr (m1 143) (m1 144)) = m2 at hcar
  have d0 : ∀ l, l ≠ 144 → m2 l = m1 l := fun l a => by rw [← hm2]; exact sR_ne a
  have d144 : m2 144 = crr (m1 143) (m1 144) := by rw [← hm2]; exact sR_same _ _ _
  have hY : f_X9_image 142 m1 = some (m1 142 3 + 1, mset m2 142 3 (m1 142 3 + 1)) := by
    unfold f_X9_image
    rw [show (142 + 1 : Nat) = 143 from rfl, show (142 + 2 : Nat) = 144 from rfl, hcar, cal_some, bnd_eq, d0 142 (by omega), mset_self]
  generalize hm3 : mset m2 142 3 (m1 142 3 + 1) = m3 at hY
  have g142 : m3 142 3 = m1 142 3 + 1 := by rw [← hm3]; exact mset_self
  have gf : ∀ f, f ≠ 3 → m3 142 f = μ 142 f := fun f hf => by rw [← hm3, mset_ne (by omega), d0 142 (by omega), co 142 (by omega) (by omega)]
  have go : ∀ l, l ≠ 142 → l ≠ 144 → m3 l = m1 l := fun l a b => by rw [← hm3, mset_row a, d0 l b]
  have g144 : m3 144 = crr (m1 143) (m1 144) := by rw [← hm3, mset_row (by omega), d144]
  have gm : ∀ l, l ≠ 0 → (l < 42 ∨ 83 ≤ l) → l ≠ 142 → l ≠ 144 → m3 l = μ l := fun l a b c d => by rw [go l c d, co l a b]
  refine ⟨_, _, _, hX, by rw [hY, co 142 (by omega) (by omega), ← i1], ?_⟩
  have e143 := gm 143 (by omega) (by omega) (by omega) (by omega)
  refine ⟨?_, by rw [e143]; exact h2, ⟨?_, fun _ => ?_⟩, fun k hk => ?_, ⟨?_, ?_, fun j hj => ?_⟩, fun i hi => ?_⟩
  · rw [e143]
    exact h1.fr h2 (fun l a b => gm l (by omega) (by omega) (by omega) (by omega))
  · rw [g142, go 0 (by omega) (by omega), c0, co 142 (by omega) (by omega), i1]
  · have hI' : Inv (m3 144) := h2.cg (fun i hi => by rw [g144, crr_lt _ _ i hi, co 143 (by omega) (by omega)])
    refine ⟨?_, hI'⟩
    have : RepW m3 42 (μ 143) := r1.fr h2 (fun l a b => by rw [go l (by omega) (by omega), cw l (by omega)])
    exact this.cg h2 (fun i hi => by rw [g144, crr_lt _ _ i hi, co 143 (by omega) (by omega)])
  · rw [gm _ (by omega) (by omega) (by omega) (by omega), gm _ (by omega) (by omega) (by omega) (by omega)]
    exact i3 k hk
  · rw [gm _ (by omega) (by omega) (by omega) (by omega), gf _ (by omega)]
    exact i4.1
  · rw [gf _ (by omega)]
    exact i4.2.1
  · rw [gf _ (by omega)] at hj
    rw [gm _ (by omega) (by omega) (by omega) (by omega), gm _ (by omega) (by omega) (by omega) (by omega)]
    exact i4.2.2 j hj
  · have := i5 i hi
    unfold ShOk at this ⊢
    rw [gm (134 + 2 * i) (by omega) (by omega) (by omega) (by omega), gm (135 + 2 * i) (by omega) (by omega) (by omega) (by omega), gm 151 (by omega) (by omega) (by omega) (by omega), gm 152 (by omega) (by omega) (by omega) (by omega), gm 153 (by omega) (by omega) (by omega) (by omega)]
    exact this
theorem sim_restore (h : Rel μ) : Sm (f_X8_restore 0 μ) (f_X9_restore 142) := by
  obtain ⟨h1, h2, h3⟩ := id h
  obtain ⟨i1, i2⟩ := h3.1
  by_cases c : μ 142 3 = 0
  · refine Sm.er h (k := 2) (by omega) ?_ (fun m e f => ?_)
    · unfold f_X8_restore
      rw [i1, if_pos c]
      exact cal_e _
    · have e142 : m 142 = μ 142 := by
        have := f 142 (Or.inl (by unfold oc; omega))
        rwa [sR_ne (by omega)] at this
      unfold f_X9_restore
      rw [e142, if_pos c]
      exact cal_e _
  · obtain ⟨j1, j2⟩ := i2 c
    obtain ⟨μ1, a1, r1, f1⟩ := copy7 (w := 1) (v := 42) (by omega) j1 j2
    have hm : μ1 143 = μ 143 := f1.c1 143 (by omega)
    have hm4 : μ1 144 = μ 144 := f1 144 (by omega)
    have hm2 : μ1 142 = μ 142 := f1 142 (by omega)
    have hX : f_X8_restore 0 μ = some (μ 144 2, μ1) := by
      unfold f_X8_restore
      rw [i1, if_neg c, Nat.zero_add, Nat.zero_add, a1, cal_some, rd_days r1]
    have hcg : ∀ i, i < 516 → crr (μ 144) (μ 143) i = μ 144 i := crr_lt _ _
    refine Sm.mk h hX (r1.cg j2 hcg) f1.c1 (j2.cg hcg) ⟨sR μ1 143 (crr (μ 144) (μ 143)), ?_, sR_same _ _ _, FrM.s143 _ _⟩
    unfold f_X9_restore
    rw [hm2, if_neg c, show (142 + 1 : Nat) = 143 from rfl, show (142 + 2 : Nat) = 144 from rfl, carry9 (by omega), cal_some, show inb (2 : Int32) 516 = true from by decide, gd_t, sR_same, hm, hm4, show (2 : Int32).toNatClampNeg = 2 from by decide, hcg 2 (by omega)]
theorem sim_untell (h : Rel μ) (x : Int32) : Sm (f_X8_untell 0 x μ) (f_X9_untell 142 x) := by
  obtain ⟨h1, h2, h3⟩ := id h
  by_cases c1 : (0 : Int32) ≤ x ∧ x ≤ 1
  · obtain ⟨u, -, hu, e1⟩ := lit_rg 0 1 rfl rfl (by omega) (by omega) c1
    generalize hr : b2 (¬ μ 143 (182 + 125 * u) = 0) = r
    have hrr : r = 0 ∨ r = 1 := by
      rw [← hr]
      unfold b2
      split
      · exact Or.inr rfl
      · exact Or.inl rfl
    have hX : f_X8_untell 0 x μ = some (r, mset μ (1 + 35 + 3 * u) 1 0) := by
      unfold f_X8_untell f_X8_isUse X8_untell_J33
      rw [within_eq, cal_some, b2_isb, gd_t, cal_some, b2_t c1, if_neg (by decide), e1, inb_nI (by omega) (by omega), gd_t, clamp_nI (by omega), Nat.zero_add, locE, isTold1 h1 h2 (by omega), cal_some, hr, gd_t, bnd_eq, bnd_eq]
      rcases hrr with q | q
      · rw [if_pos q, q]
      · rw [if_neg (by rw [q]; decide), q, gd_t]
    have hT : ∀ v, v < 2 → v ≠ u → ∀ i, i < 125 → upd (μ 143) (182 + 125 * u) 0 (182 + 125 * v + i) = μ 143 (182 + 125 * v + i) := fun v hv hne i hi => upd_ne (by omega)
    have hI' : Inv (upd (μ 143) (182 + 125 * u) 0) := by
      refine h2.txts (fun i hi => upd_ne (by omega)) (fun v hv => ?_)
      by_cases q : v = u
      · subst q
        have e0 : txt (upd (μ 143) (182 + 125 * v) 0) v 0 = 0 := by unfold txt; exact upd_same _ _ _
        refine ⟨by rw [e0]; unfold rg; decide, fun i hi => ?_, fun hp => ?_⟩
        · rw [e0] at hi
          exact absurd hi (by rw [z0]; omega)
        · rw [e0] at hp
          exact absurd hp (by rw [z0]; omega)
      · exact (h2.text v hv).eq (fun i hi => hT v hv q i hi)
    have hm : mset μ (1 + 35 + 3 * u) 1 0 143 = μ 143 := mset_row (by omega)
    have hfr : FrW 1 μ (mset μ (1 + 35 + 3 * u) 1 0) := by rw [Nat.add_assoc 1 35]; exact FrW.ms (by omega)
    refine Sm.mk h hX (σ' := upd (μ 143) (182 + 125 * u) 0) ⟨?_, fun k hk g hg => ?_, fun v hv => ?_⟩ hfr.c1 hI' ?_
    · rw [lve_upd (by omega) (by omega) (by omega) (by omega)]
      intro i p hi hl
      have := am_bk hi
      rw [mset_row (by omega), upd_ne (by omega)]
      exact h1.1 i p hi hl
    · have h6 := h2.n6
      have hk' : k < nS (μ 143) := by unfold nS at hk ⊢; rwa [upd_ne (by omega)] at hk
      rw [mset_row (by omega), upd_ne (by omega)]
      exact h1.2.1 k hk' g hg
    · by_cases q : v = u
      · subst q
        rw [upd_same, mset_self]
        exact ⟨rfl, fun i hi => absurd hi (by rw [z0]; omega)⟩
      · have t60 := h2.t60 v hv
        rw [upd_ne (by omega), mset_row (by omega), mset_row (by omega)]
        refine ⟨(h1.2.2 v hv).1, fun i hi => ?_⟩
        rw [upd_ne (by omega), upd_ne (by omega)]
        exact (h1.2.2 v hv).2 i hi
    · refine ⟨sR (mset μ (1 + 35 + 3 * u) 1 0) 143 (upd (μ 143) (182 + 125 * u) 0), ?_, sR_same _ _ _, FrM.s143 _ _⟩
      have hix : (182 : Int32) + 125 * nI u = nI (182 + 125 * u) := by
        show nI 182 + nI 125 * nI u = _
        rw [nI_mul, nI_add]
      unfold f_X9_untell X9_untell_J28
      rw [in_eq, cal_some, b2_t c1, if_neg (by decide), e1, hasText9 (by rw [hm]; exact h2) (by omega), cal_some, hm, hr, hix, inb_nI (by omega) (by omega), gd_t, gd_t, bnd_eq, bnd_eq, clamp_nI (by omega), show (142 + 1 : Nat) = 143 from rfl, mset_sR _ 143, hm]
      rcases hrr with q | q
      · rw [if_pos q, q]
      · rw [if_neg (by rw [q]; decide), q]
  · refine Sm.er h (k := 1) (by omega) ?_ (fun m e _ => ?_)
    · unfold f_X8_untell f_X8_isUse
      rw [within_eq, cal_some, b2_isb, gd_t, cal_some, b2_f c1, if_pos rfl]
      exact cal_e _
    · unfold f_X9_untell
      rw [in_eq, cal_some, b2_f c1, if_pos rfl]
      exact cal_e _
end OPS4
