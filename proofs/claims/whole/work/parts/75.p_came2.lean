/-! PURE 40: who must have come, both -/
section
theorem Rel.of {μ μ2 : Mem} (h : Rel μ) (he : ∀ l, oc l → l ≠ 133 → l ≠ 146 → μ2 l = μ l) (hw : ∀ l, 1 ≤ l → l < 42 → μ2 l = μ l) (h143 : μ2 143 = μ 143) (her : ErOk μ2) : Rel μ2 := by
  obtain ⟨h1, h2, ⟨⟨i1, i2⟩, -, ⟨i4, i5, i6⟩, i7⟩⟩ := h
  have e142 := he 142 (by unfold oc; omega) (by omega) (by omega)
  refine ⟨?_, by rw [h143]; exact h2, ⟨⟨?_, fun hn => ?_⟩, her, ⟨?_, ?_, fun j hj => ?_⟩, fun i hi => ?_⟩⟩
  · rw [h143]
    exact h1.fr h2 (fun l a b => hw l (by omega) (by omega))
  · rw [he 0 (by unfold oc; omega) (by omega) (by omega), e142]
    exact i1
  · rw [e142] at hn
    rw [he 144 (by unfold oc; omega) (by omega) (by omega)]
    exact ⟨(i2 hn).1.fr (i2 hn).2 (fun l a b => he l (by unfold oc; omega) (by omega) (by omega)), (i2 hn).2⟩
  · rw [he 128 (by unfold oc; omega) (by omega) (by omega), e142]
    exact i4
  · rw [e142]
    exact i5
  · rw [e142] at hj
    rw [he 129 (by unfold oc; omega) (by omega) (by omega), he 150 (by unfold oc; omega) (by omega) (by omega)]
    exact i6 j hj
  · have := i7 i hi
    unfold ShOk at this ⊢
    rw [he (134 + 2 * i) (by unfold oc; omega) (by omega) (by omega), he (135 + 2 * i) (by unfold oc; omega) (by omega) (by omega), he 151 (by unfold oc; omega) (by omega) (by omega), he 152 (by unfold oc; omega) (by omega) (by omega), he 153 (by unfold oc; omega) (by omega) (by omega)]
    exact this
/-- refused behind a trial -/
theorem Sm.er2 {μ μ1 : Mem} {X : Res} {Y : Mem → Res} (h : Rel μ) {k : Nat} (hk : k < 7) (hX : X = f_X8_error 0 (nI k) μ1) (hw : ∀ l, 1 ≤ l → l < 42 → μ1 l = μ l) (f1 : FrC μ μ1) (hY : ∀ m : Mem, (∀ l, oc l ∨ 143 ≤ l → l ≠ 133 → m l = μ l) → ∃ m2, Y m = f_X9_error 142 (nI k) m2 ∧ m2 143 = μ 143 ∧ FrM m m2) : Sm X Y := by
  have hX2 := hX.trans (error8 hk μ1)
  generalize hm : sR μ1 133 (erN (μ1 133) k) = m1 at hX2
  have e1 : ∀ l, l ≠ 133 → m1 l = μ1 l := fun l a => by rw [← hm]; exact sR_ne a
  have e133 : m1 133 = erN (μ1 133) k := by rw [← hm]; exact sR_same _ _ _
  obtain ⟨m2, y1, y2, y3⟩ := hY m1 (fun l a b => by rw [e1 l b]; exact f1 l a)
  have hY2 := y1.trans (error9 hk m2)
  generalize hm3 : sR m2 146 (erN (m2 146) k) = m3 at hY2
  have e3 : ∀ l, l ≠ 146 → m3 l = m2 l := fun l a => by rw [← hm3]; exact sR_ne a
  have e146 : m3 146 = erN (m2 146) k := by rw [← hm3]; exact sR_same _ _ _
  refine ⟨_, m1, m3, hX2, hY2, h.of (fun l a b c => by rw [e3 l c, y3 l (Or.inl a), e1 l b]; exact f1 l (Or.inl a)) (fun l a b => by rw [e3 l (by omega), y3 l (by omega), e1 l (by omega)]; exact hw l a b) (by rw [e3 143 (by omega), y2]) (fun j hj => ?_)⟩
  have i3 := h.2.2.2.1
  rw [e3 133 (by omega), y3 133 (Or.inl (by unfold oc; omega)), e133, e146, y3 146 (Or.inl (by unfold oc; omega)), e1 146 (by omega), f1 133 (Or.inl (by unfold oc; omega)), f1 146 (Or.inl (by unfold oc; omega))]
  unfold erN
  by_cases q : j = k
  · rw [q, upd_same, upd_same, i3 k hk]
  · rw [upd_ne q, upd_ne q]
    exact i3 j hj
theorem sim_came {μ : Mem} (h : Rel μ) (x y z : Int32) : Sm (f_X8_came 0 x y z μ) (f_X9_came 142 x y z) := by
  obtain ⟨h1, h2, h3⟩ := id h
  have h6 := h2.n6
  have h10 := h2.c10
  by_cases c2 : (0 : Int32) ≤ y ∧ y ≤ μ 143 0 - 1
  · by_cases c3 : (0 : Int32) ≤ z ∧ z ≤ 3
    · by_cases c1 : (0 : Int32) ≤ x ∧ x ≤ 3
      · obtain ⟨k, -, hk, e1⟩ := lit_rg 0 3 rfl rfl (by omega) (by omega) c1
        obtain ⟨s, hs, e2⟩ := h2.sh c2
        obtain ⟨w, -, hw, e3⟩ := lit_rg 0 3 rfl rfl (by omega) (by omega) c3
        obtain ⟨s1, s2, s3, s4, s5⟩ := ShOk.at h (i := k) (by omega)
        obtain ⟨p1, p2⟩ := rg_clamp (n := 24) s4 (by omega)
        subst e1
        subst e2
        subst e3
        by_cases q : μ 151 k = 0
        · refine Sm.er h (k := 2) (by omega) ?_ (fun m e f => ?_)
          · unfold f_X8_came X8_came_J59
            simp only [Nat.zero_add]
            rw [isSheet8, cal_some, b2_t c1, if_neg (by decide), hasShop7 h1, cal_some, b2_t c2, if_neg (by decide), within_eq, cal_some, b2_t c3, if_neg (by decide), inb_nI (by omega) (by omega), gd_t, clamp_nI (by omega), locS, missing4, cal_some, s1, b2_t q, if_neg (by decide)]
            exact cal_e _
          · unfold f_X9_came X9_came_J26 X9_came_J48 X9_came_J50
            rw [isShop9 e, cal_some, b2_t c2, if_neg (by decide), in_eq, cal_some, b2_t c3, if_neg (by decide), refuse9 (μ := μ) (er_at f (Or.inl (by unfold oc; omega)) (by omega)) (by omega), cal_some, if_pos q, if_neg (by decide), if_neg (by decide)]
            exact cal_e _
        · by_cases q6 : (6 : Int32) ≤ μ 152 k
          · obtain ⟨P, hPd⟩ : ∃ P : Nat → Bool, P = fun G => (List.range 6).all (fun g => decide (vP (μ 143) G (nC (μ 143)) (25 + 21 * s + g) = μ (135 + 2 * k) g)) := ⟨_, rfl⟩
            have hP : ∀ G, P G = true ↔ ∀ g, g < 6 → vP (μ 143) G (nC (μ 143)) (25 + 21 * s + g) = μ (135 + 2 * k) g := fun G => by rw [hPd]; exact ⟨fun q g hg => of_decide_eq_true (List.all_eq_true.mp q g (List.mem_range.mpr hg)), fun q => List.all_eq_true.mpr (fun g hg => decide_eq_true (q g (List.mem_range.mp hg)))⟩
            obtain ⟨μ1, a1, r1, f1⟩ := trial7 h1 h2
            obtain ⟨m6, hm6⟩ : ∃ m6, m6 = mset (mset (mset (mset (mcpy (mset μ1 130 4 (nI s)) (135 + 2 * k) 0 131 0 6) 130 0 0) 130 1 (-1)) 130 2 (-1)) 130 3 0 := ⟨_, rfl⟩
            have f6 : ∀ l, l ≠ 130 → l ≠ 131 → m6 l = μ1 l := fun l a b => by rw [hm6, mset_row a, mset_row a, mset_row a, mset_row a, mcpyG_ne b, mset_row a]
            have sc6 : SC s (μ (135 + 2 * k)) m6 (0, 0, -1, 0) := by
              rw [hm6]
              refine ⟨?_, fun q => absurd rfl q, ?_, ?_, ?_, fun g hg => ?_⟩
              · rw [mset_ne (by omega), mset_ne (by omega), mset_ne (by omega), mset_self]; rfl
              · rw [mset_ne (by omega), mset_self]
              · rw [mset_self]
              · rw [mset_ne (by omega), mset_ne (by omega), mset_ne (by omega), mset_ne (by omega), mcpyG_ne (by omega), mset_self]
              · rw [mset_row (by omega), mset_row (by omega), mset_row (by omega), mset_row (by omega), mcpyG_at (by omega) (by omega), mset_row (by omega), f1 _ (by omega), Nat.zero_add, Nat.sub_zero]
            have hpw := p1024 h10
            obtain ⟨μ2, τ, t1, t2, -, -, -, t6, -, t8, -⟩ := try3 h2 hs hP (nC (μ 143)) 0 0 m6 (μ 143) (0, 0, -1, 0) RF (by omega) (by show nC (μ 143) < 24; omega) (by decide) sc6 (r1.fr h2 (fun l a b => f6 l (by omega) (by omega))) h2 (eqP.rf _) (by show 0 + 2 ^ nC (μ 143) ≤ 1024; omega) (by show 0 < 1024; omega)
            rw [fold_all] at t2
            obtain ⟨A, hA⟩ : ∃ A : AC, A = (List.range (2 ^ nC (μ 143))).foldl (stC P) (0, 0, -1, 0) := ⟨_, rfl⟩
            rw [← hA] at t2
            obtain ⟨b0, b1, b2', b3, -, -⟩ := t2
            obtain ⟨v1, v2⟩ := acc_inv P (K := nI (2 ^ nC (μ 143) - 1)) (B := 2 ^ nC (μ 143)) (andK _ h10) (2 ^ nC (μ 143)) (Nat.le_refl _)
            rw [← hA] at v1 v2
            have fc : FrC μ μ2 := fun l hl => by rw [t6 l (by unfold oc at hl; omega) (by unfold oc at hl; omega) (by unfold oc at hl; omega), f6 l (by unfold oc at hl; omega) (by unfold oc at hl; omega)]; exact f1.c83 l hl
            have fw : ∀ l, 1 ≤ l → l < 42 → μ2 l = μ l := fun l a b => by rw [t6 l (by omega) (by omega) (by omega), f6 l (by omega) (by omega), f1 l (by omega)]
            have hX : f_X8_came 0 (nI k) (nI s) (nI w) μ = if nI A.1 = 0 then (if nI w = 1 then f_X8_error 0 2 μ2 else (if nI w = 2 then f_X8_error 0 2 μ2 else X8_came_J123 0 (nI w) μ2)) else X8_came_J123 0 (nI w) μ2 := by
              unfold f_X8_came X8_came_J117 f_X3_tryAll
              simp only [Nat.zero_add]
              rw [isSheet8, cal_some, b2_t c1, if_neg (by decide), hasShop7 h1, cal_some, b2_t c2, if_neg (by decide), within_eq, cal_some, b2_t c3, if_neg (by decide), inb_nI (by omega) (by omega), gd_t, clamp_nI (by omega), locS, locT, missing4, cal_some, s1, b2_f q, if_pos rfl, gd_t, s2, if_pos q6, a1, cal_some, gd_t, bnd_eq, show cpok 0 0 6 24 6 = true from by decide, gd_t, bnd_eq, bnd_eq, bnd_eq, bnd_eq, bnd_eq, z0, six_c, show (130 + 1 : Nat) = 131 from rfl, ← hm6]
              have t1' : f_X3_tryFrom RF 130 83 0 0 m6 = some (0, μ2) := t1
              rw [t1', cal_some, cal_some, b0, cal_e]
            have hY : ∀ m : Mem, (∀ l, oc l ∨ 143 ≤ l → l ≠ 133 → m l = μ l) → ∃ m2, f_X9_came 142 (nI k) (nI s) (nI w) m = finM (nI w) (nI (2 ^ nC (μ 143) - 1)) A m2 ∧ m2 143 = μ 143 ∧ FrT m m2 := by
              intro m hm
              have e143 := hm 143 (by omega) (by omega)
              have e152 := hm 152 (by omega) (by omega)
              obtain ⟨m2, g1, g2, g3⟩ := came88 (k := k) (s := s) h2 (by omega) (by omega) hP (nI w) (K := nI (2 ^ nC (μ 143) - 1)) (2 ^ nC (μ 143)) 0 m (0, 0, -1, 0) FU (by omega) (by rw [FU_eq]; omega) e143 (fun g hg => by rw [hm 153 (by omega) (by omega), ← s5 g (by omega)]) rfl
              rw [← hA] at g1
              refine ⟨m2, ?_, g2, g3⟩
              unfold f_X9_came X9_came_J26 X9_came_J48 X9_came_J50
              rw [isShop9 e143, cal_some, b2_t c2, if_neg (by decide), in_eq, cal_some, b2_t c3, if_neg (by decide), refuse9 (μ := μ) (hm 151 (by omega) (by omega)) (by omega), cal_some, if_neg q, if_pos rfl, inb_nI (by omega) (by omega), gd_t, clamp_nI (by omega), show (142 + 10 : Nat) = 152 from rfl, e152, if_pos q6, if_pos (by decide), show inb (1 : Int32) 516 = true from by decide, gd_t, bnd_eq, ix143 e143, z1, h2.s1, islC _ h10, nI_pred1 (Nat.two_pow_pos _)]
              rw [← g1]
              have : nI (2 ^ nC (μ 143) - 1) &&& (-1 : Int32) = nI (2 ^ nC (μ 143) - 1) := Int32.and_neg_one
              show _ = X9_came_L88 FU 142 (nI k) (nI s) (nI w) 0 (-1) (nI (2 ^ nC (μ 143) - 1) &&& (-1 : Int32)) 0 0 m
              rw [this]
            have hlt : A.1 < 2 ^ 31 := by omega
            have hfm : ∀ m : Mem, (∀ l, oc l ∨ 143 ≤ l → l ≠ 133 → m l = μ l) → m = m := fun _ _ => rfl
            have hself : ∀ l, oc l ∨ 143 ≤ l → l ≠ 133 → μ2 l = μ l := fun l a _ => fc l a
            by_cases z0' : A.1 = 0
            · have hz : nI A.1 = 0 := by rw [z0']; rfl
              by_cases w1 : w = 1 ∨ w = 2
              · refine Sm.er2 h (k := 2) (by omega) (μ1 := μ2) ?_ fw fc (fun m hm => ?_)
                · rw [hX, if_pos hz]
                  rcases w1 with rfl | rfl
                  · rw [if_pos (by decide)]; rfl
                  · rw [if_neg (by decide), if_pos (by decide)]; rfl
                · obtain ⟨m2, g1, g2, g3⟩ := hY m hm
                  refine ⟨m2, ?_, g2, g3.m⟩
                  rw [g1]
                  unfold finM
                  rw [if_pos hz]
                  rcases w1 with rfl | rfl
                  · rw [if_pos (by decide)]; rfl
                  · rw [if_neg (by decide), if_pos (by decide)]; rfl
              · obtain ⟨m2, g1, g2, g3⟩ := hY μ2 hself
                have w1n : ¬ nI w = 1 := fun e => w1 (Or.inl ((eqI (x := 1) 1 rfl (by omega) (by omega)).mp e))
                have w2n : ¬ nI w = 2 := fun e => w1 (Or.inr ((eqI (x := 2) 2 rfl (by omega) (by omega)).mp e))
                rw [if_pos hz, if_neg w1n, if_neg w2n] at hX
                unfold finM at g1
                rw [if_pos hz, if_neg w1n, if_neg w2n] at g1
                rcases (show w = 0 ∨ w = 3 by omega) with rfl | rfl
                · have hX' : f_X8_came 0 (nI k) (nI s) (nI 0) μ = some (nI A.1, μ2) := by
                    rw [hX, ← b0]; rfl
                  exact Sm.mk h hX' (h1.fr h2 (fun l a b => fw l (by omega) (by omega))) fc h2 ⟨m2, g1, g2, g3.m⟩
                · have hX' : f_X8_came 0 (nI k) (nI s) (nI 3) μ = some (A.2.2.2, μ2) := by
                    rw [hX, ← b3]; rfl
                  exact Sm.mk h hX' (h1.fr h2 (fun l a b => fw l (by omega) (by omega))) fc h2 ⟨m2, g1, g2, g3.m⟩
            · have hz : ¬ nI A.1 = 0 := fun e => z0' ((eqI (x := 0) 0 rfl (by omega) (by omega)).mp e)
              obtain ⟨m2, g1, g2, g3⟩ := hY μ2 hself
              rw [if_neg hz] at hX
              unfold finM at g1
              rw [if_neg hz, if_neg z0', (v2 z0').2] at g1
              have hr := h1.fr h2 (μ' := μ2) (fun l a b => fw l (by omega) (by omega))
              rcases (show w = 0 ∨ w = 1 ∨ w = 2 ∨ w = 3 by omega) with rfl | rfl | rfl | rfl
              · have hX' : f_X8_came 0 (nI k) (nI s) (nI 0) μ = some (nI A.1, μ2) := by
                  rw [hX, ← b0]; rfl
                exact Sm.mk h hX' hr fc h2 ⟨m2, g1, g2, g3.m⟩
              · have hX' : f_X8_came 0 (nI k) (nI s) (nI 1) μ = some (nI A.2.1, μ2) := by
                  rw [hX, ← b1 z0']; rfl
                exact Sm.mk h hX' hr fc h2 ⟨m2, g1, g2, g3.m⟩
              · have hX' : f_X8_came 0 (nI k) (nI s) (nI 2) μ = some (A.2.2.1, μ2) := by
                  rw [hX, ← b2']; rfl
                exact Sm.mk h hX' hr fc h2 ⟨m2, g1, g2, g3.m⟩
              · have hX' : f_X8_came 0 (nI k) (nI s) (nI 3) μ = some (A.2.2.2, μ2) := by
                  rw [hX, ← b3]; rfl
                exact Sm.mk h hX' hr fc h2 ⟨m2, g1, g2, g3.m⟩
          · refine Sm.er h (k := 2) (by omega) ?_ (fun m e f => ?_)
            · unfold f_X8_came X8_came_J59
              simp only [Nat.zero_add]
              rw [isSheet8, cal_some, b2_t c1, if_neg (by decide), hasShop7 h1, cal_some, b2_t c2, if_neg (by decide), within_eq, cal_some, b2_t c3, if_neg (by decide), inb_nI (by omega) (by omega), gd_t, clamp_nI (by omega), locS, missing4, cal_some, s1, b2_f q, if_pos rfl, gd_t, s2, if_neg q6]
              exact cal_e _
            · have e152 : m 152 = μ 152 := er_at f (Or.inl (by unfold oc; omega)) (by omega)
              unfold f_X9_came X9_came_J26 X9_came_J50
              rw [isShop9 e, cal_some, b2_t c2, if_neg (by decide), in_eq, cal_some, b2_t c3, if_neg (by decide), refuse9 (μ := μ) (er_at f (Or.inl (by unfold oc; omega)) (by omega)) (by omega), cal_some, if_neg q, if_pos rfl, inb_nI (by omega) (by omega), gd_t, clamp_nI (by omega), show (142 + 10 : Nat) = 152 from rfl, e152, if_neg q6, if_neg (by decide)]
              exact cal_e _
      · refine Sm.er h (k := 1) (by omega) ?_ (fun m e _ => ?_)
        · unfold f_X8_came X8_came_J27
          rw [isSheet8, cal_some, b2_f c1, if_pos rfl]
          exact cal_e _
        · unfold f_X9_came X9_came_J26 X9_came_J48 X9_came_J50
          rw [isShop9 e, cal_some, b2_t c2, if_neg (by decide), in_eq, cal_some, b2_t c3, if_neg (by decide), refuseN9 c1, cal_some, if_neg (by decide), if_neg (by decide)]
          exact cal_e _
    · refine Sm.er h (k := 1) (by omega) ?_ (fun m e _ => ?_)
      · unfold f_X8_came X8_came_J27
        simp only [Nat.zero_add]
        rw [isSheet8, cal_some, hasShop7 h1, cal_some, b2_t c2, if_neg (show ¬ (1 : Int32) = 0 by decide), within_eq, cal_some, b2_f c3, if_pos rfl, ite_self]
        exact cal_e _
      · unfold f_X9_came X9_came_J25 X9_came_J26 X9_came_J48 X9_came_J50
        rw [isShop9 e, cal_some, b2_t c2, if_neg (by decide), in_eq, cal_some, b2_f c3, if_pos rfl, if_neg (by decide), if_neg (by decide)]
        exact cal_e _
  · refine Sm.er h (k := 1) (by omega) ?_ (fun m e _ => ?_)
    · unfold f_X8_came X8_came_J27
      simp only [Nat.zero_add]
      rw [isSheet8, cal_some, hasShop7 h1, cal_some, b2_f c2, if_pos rfl, ite_self]
      exact cal_e _
    · unfold f_X9_came X9_came_J25 X9_came_J26 X9_came_J48 X9_came_J50
      rw [isShop9 e, cal_some, b2_f c2, if_pos rfl, if_neg (by decide), if_neg (by decide)]
      exact cal_e _
end
