/-! PURE 19: calls that set -/
theorem Inv.r7 {σ : Nat → Int32} (h : Inv σ) : rg (σ 7) 0 24 := h.2.2.2.2.2.1
theorem Inv.r6 {σ : Nat → Int32} (h : Inv σ) : rg (σ 6) 0 60 := h.2.2.2.2.1
section OPS2
variable {μ : Mem}
theorem sim_rule (h : Rel μ) (x y : Int32) : Sm (f_X8_rule 0 x y μ) (f_X9_rule 142 x y) := by
  obtain ⟨h1, h2, h3⟩ := id h
  by_cases c0 : x = 0
  · subst c0
    by_cases c1 : (0 : Int32) ≤ y ∧ y ≤ 1
    · have hX : f_X8_rule 0 0 y μ = some (μ 143 4, mset μ 1 1 y) := by
        unfold f_X8_rule
        rw [if_pos rfl, within_eq, cal_some, b2_t c1, if_neg (by decide), bnd_eq, bnd_eq, Nat.zero_add, rd_ring h1]
      refine Sm.mk h hX (h1.wr h2 (i := 4) (p := (0, 1)) rfl (by omega) (by omega) (by omega) (by omega) y) (FrW.m0 (w := 1)).c1 (h2.low (fun i a b => upd_ne (by omega)) (upd_ne (by omega)) (upd_ne (by omega)) (upd_ne (by omega)) (by rw [upd_same]; exact rI (by decide) (by decide) c1) (by rw [upd_ne (by omega)]; exact h2.law) (by rw [upd_ne (by omega)]; exact h2.r7) (fun g hg => by rw [upd_ne (by omega)]; exact h2.cost g hg)) ?_
      have hm : mset μ 1 1 y 143 = μ 143 := mset_row (by omega)
      refine ⟨sR (mset μ 1 1 y) 143 (upd (μ 143) 4 y), ?_, sR_same _ _ _, FrM.s143 _ _⟩
      unfold f_X9_rule X9_rule_J20
      rw [in_eq, cal_some, b2_t (by decide), if_neg (by decide), if_pos rfl, in_eq, cal_some, b2_t c1, if_neg (by decide), show inb ((4 : Int32) + 0) 516 = true from by decide, gd_t, bnd_eq, gd_t, bnd_eq, show ((4 : Int32) + 0).toNatClampNeg = 4 from by decide, show (142 + 1 : Nat) = 143 from rfl, mset_sR _ 143, hm]
    · refine Sm.er h (k := 1) (by omega) ?_ (fun m e _ => ?_)
      · unfold f_X8_rule X8_rule_J31 X8_rule_J63
        rw [if_pos rfl, within_eq, cal_some, b2_f c1, if_pos rfl, if_neg (by decide)]
        exact cal_e _
      · unfold f_X9_rule X9_rule_J20 X9_rule_J26
        rw [in_eq, cal_some, b2_t (by decide), if_neg (by decide), if_pos rfl, in_eq, cal_some, b2_f c1, if_pos rfl]
        exact cal_e _
  · by_cases c9 : x = 1
    · subst c9
      by_cases c1 : (0 : Int32) ≤ y ∧ y ≤ 2
      · have hX : f_X8_rule 0 1 y μ = some (μ 143 5, mset μ 1 2 y) := by
          unfold f_X8_rule X8_rule_J31
          rw [if_neg (by decide), if_pos rfl, within_eq, cal_some, b2_t c1, if_neg (by decide), bnd_eq, bnd_eq, Nat.zero_add, rd_law h1]
        refine Sm.mk h hX (h1.wr h2 (i := 5) (p := (0, 2)) rfl (by omega) (by omega) (by omega) (by omega) y) (FrW.m0 (w := 1)).c1 (h2.low (fun i a b => upd_ne (by omega)) (upd_ne (by omega)) (upd_ne (by omega)) (upd_ne (by omega)) (by rw [upd_ne (by omega)]; exact h2.ring) (by rw [upd_same]; exact rI (by decide) (by decide) c1) (by rw [upd_ne (by omega)]; exact h2.r7) (fun g hg => by rw [upd_ne (by omega)]; exact h2.cost g hg)) ?_
        have hm : mset μ 1 2 y 143 = μ 143 := mset_row (by omega)
        refine ⟨sR (mset μ 1 2 y) 143 (upd (μ 143) 5 y), ?_, sR_same _ _ _, FrM.s143 _ _⟩
        unfold f_X9_rule X9_rule_J20
        rw [in_eq, cal_some, b2_t (by decide), if_neg (by decide), if_neg (by decide), in_eq, cal_some, b2_t c1, if_neg (by decide), show inb ((4 : Int32) + 1) 516 = true from by decide, gd_t, bnd_eq, gd_t, bnd_eq, show ((4 : Int32) + 1).toNatClampNeg = 5 from by decide, show (142 + 1 : Nat) = 143 from rfl, mset_sR _ 143, hm]
      · refine Sm.er h (k := 1) (by omega) ?_ (fun m e _ => ?_)
        · unfold f_X8_rule X8_rule_J31 X8_rule_J63
          rw [if_neg (by decide), if_pos rfl, within_eq, cal_some, b2_f c1, if_pos rfl]
          exact cal_e _
        · unfold f_X9_rule X9_rule_J20 X9_rule_J26
          rw [in_eq, cal_some, b2_t (by decide), if_neg (by decide), if_neg (by decide), in_eq, cal_some, b2_f c1, if_pos rfl]
          exact cal_e _
    · refine Sm.er h (k := 1) (by omega) ?_ (fun m e _ => ?_)
      · unfold f_X8_rule X8_rule_J31 X8_rule_J63
        rw [if_neg c0, if_neg c9]
        exact cal_e _
      · unfold f_X9_rule X9_rule_J26
        have c2 : ¬ ((0 : Int32) ≤ x ∧ x ≤ 1) := fun q => by
          obtain ⟨j, -, hj, e2⟩ := lit_rg 0 1 rfl rfl (by omega) (by omega) q
          rcases (show j = 0 ∨ j = 1 by omega) with rfl | rfl
          · exact c0 e2
          · exact c9 e2
        rw [in_eq, cal_some, b2_f c2, if_pos rfl]
        exact cal_e _
/-- as which kind -/
def udG : Nat → Int32 → Int32 → Int32 → Option Int32
  | 0, _, _, _ => none
  | n + 1, x1, x2, x3 => if 7 ≤ x3 then some 0 else if (0 : Int32) ≤ x2 ∧ x2 ≤ 6 then (if x2 = x1 then some 1 else gd (inb x2 7) (udG n x1 (aboveF x2.toNatClampNeg) (x3 + 1))) else some 0
theorem gd_map {α β : Type} (b : Bool) (x : Option α) (f : α → β) : gd b (x.map f) = (gd b x).map f := by cases b <;> rfl
theorem udG_eq : ∀ n x1 x2 x3 (m : Mem), X8_isUnder_L4 n x1 x2 x3 m = (udG n x1 x2 x3).map (fun r => (r, m)) := by
  intro n
  induction n with
  | zero => intro a x y m; rfl
  | succ n ih =>
    intro a x y m
    show X8_isUnder_L4B (X8_isUnder_L4 n) a x y m = _
    unfold X8_isUnder_L4B X8_isUnder_J39 udG
    rw [within_eq, cal_some, show isb (0 : Int32) = true from rfl, show isb (1 : Int32) = true from rfl, gd_t, gd_t]
    by_cases c1 : (7 : Int32) ≤ y
    · rw [if_pos c1, if_pos c1]; rfl
    · rw [if_neg c1, if_neg c1]
      by_cases c2 : (0 : Int32) ≤ x ∧ x ≤ 6
      · rw [b2_t c2, if_neg (by decide), if_pos c2]
        by_cases c3 : x = a
        · rw [if_pos c3, if_pos c3]; rfl
        · rw [if_neg c3, if_neg c3, bnd_eq, bnd_eq, ih, gd_map]
      · rw [b2_f c2, if_pos rfl, if_neg c2]; rfl
def ud9 (x0 x1 : Int32) : Int32 := if x1 = 0 then 1 else if x0 = x1 then 1 else if x1 = 1 then (if x0 = 4 then 1 else 0) else if x1 = 2 then (if x0 = 5 then 1 else 0) else 0
theorem isUnder9 (x0 x1 : Int32) (m : Mem) : f_X9_isUnder x0 x1 m = some (ud9 x0 x1, m) := by
  unfold f_X9_isUnder X9_isUnder_J19 X9_isUnder_J29 X9_isUnder_J33 X9_isUnder_J34 ud9
  rw [show isb (0 : Int32) = true from rfl, show isb (1 : Int32) = true from rfl, gd_t, gd_t]
  by_cases c1 : x1 = 0
  · rw [if_pos c1, if_pos c1]
  rw [if_neg c1, if_neg c1]
  by_cases c2 : x0 = x1
  · rw [if_pos c2, if_pos c2]
  rw [if_neg c2, if_neg c2]
  by_cases c3 : x1 = 1
  · rw [if_pos c3, if_pos c3]
    by_cases c4 : x0 = 4
    · rw [if_pos c4, if_pos c4]
    · rw [if_neg c4, if_neg c4, if_neg (fun q => absurd (c3.symm.trans q) (by decide))]
  · rw [if_neg c3, if_neg c3]
    by_cases c4 : x1 = 2
    · rw [if_pos c4, if_pos c4]
      by_cases c5 : x0 = 5
      · rw [if_pos c5, if_pos c5]
      · rw [if_neg c5, if_neg c5]
    · rw [if_neg c4, if_neg c4]
theorem ud_all : ∀ a, a ≤ 6 → ∀ b, b ≤ 6 → udG FU (nI b) (nI a) 0 = some (ud9 (nI a) (nI b)) := by decide +kernel
theorem isUnder8 {x y : Int32} (hx : rg x 0 6) (hy : rg y 0 6) (m : Mem) : f_X8_isUnder x y m = some (ud9 x y, m) := by
  obtain ⟨a, ha, rfl⟩ := rg_nI (n := 6) hx (by omega)
  obtain ⟨b, hb, rfl⟩ := rg_nI (n := 6) hy (by omega)
  unfold f_X8_isUnder
  rw [udG_eq, ud_all a ha b hb]
  rfl
theorem sim_as (h : Rel μ) (x y : Int32) : Sm (f_X8_as 0 x y μ) (f_X9_as 142 x y) := by
  obtain ⟨h1, h2, h3⟩ := id h
  have h6 := h2.n6
  by_cases c1 : (0 : Int32) ≤ x ∧ x ≤ μ 143 0 - 1
  · by_cases c2 : (0 : Int32) ≤ y ∧ y ≤ 6
    · obtain ⟨k, hk, e1⟩ := h2.sh c1
      have hu : f_X8_as 0 x y μ = (if ud9 (μ 143 (16 + 21 * k)) y = 0 then f_X8_error 0 5 μ else some (μ 143 (18 + 21 * k), μ)) := by
        unfold f_X8_as
        rw [Nat.zero_add, hasShop7 h1, cal_some, b2_t c1, if_neg (by decide), within_eq, cal_some, b2_t c2, if_neg (by decide), e1, inb_nI (by omega) (by omega), gd_t, clamp_nI (by omega), locA, rd_kind h1 h2 hk, isUnder8 (h2.shop k hk).1 (rI (by decide) (by decide) c2), cal_some, gd_t, cal_e, rd_purse h1 h2 hk]
      have hv : ∀ m, m 143 = μ 143 → f_X9_as 142 x y m = (if ud9 (μ 143 (16 + 21 * k)) y = 0 then f_X9_error 142 5 m else some (μ 143 (18 + 21 * k), m)) := by
        intro m e
        unfold f_X9_as X9_as_J51
        rw [isShop9 e, cal_some, b2_t c1, if_neg (by decide), in_eq, cal_some, b2_t c2, if_neg (by decide), e1, its9_0 (by omega), cal_some, isUnder9, cal_some, its9_2 (by omega), cal_some, cal_e, e]
      by_cases c3 : ud9 (μ 143 (16 + 21 * k)) y = 0
      · refine Sm.er h (k := 5) (by omega) ?_ (fun m e _ => ?_)
        · rw [hu, if_pos c3]; rfl
        · rw [hv m e, if_pos c3]; rfl
      · exact Sm.mk h (by rw [hu, if_neg c3]) h1 (FrC.rf _) h2 ⟨μ, by rw [hv μ rfl, if_neg c3], rfl, FrM.rf _⟩
    · refine Sm.er h (k := 1) (by omega) ?_ (fun m e _ => ?_)
      · unfold f_X8_as X8_as_J21
        rw [Nat.zero_add, hasShop7 h1, cal_some, b2_t c1, if_neg (by decide), within_eq, cal_some, b2_f c2, if_pos rfl]
        exact cal_e _
      · unfold f_X9_as X9_as_J18
        rw [isShop9 e, cal_some, b2_t c1, if_neg (by decide), in_eq, cal_some, b2_f c2, if_pos rfl]
        exact cal_e _
  · refine Sm.er h (k := 1) (by omega) ?_ (fun m e _ => ?_)
    · unfold f_X8_as X8_as_J21
      rw [Nat.zero_add, hasShop7 h1, cal_some, b2_f c1, if_pos rfl]
      exact cal_e _
    · unfold f_X9_as X9_as_J18
      rw [isShop9 e, cal_some, b2_f c1, if_pos rfl]
      exact cal_e _
/-- set -/
def mst9 (x : Int32) : Int32 := if x = 0 then 6 else if x = 1 then 9 else if (3 : Int32) ≤ x ∧ x ≤ 8 then 9 else if (9 : Int32) ≤ x ∧ x ≤ 14 then 99 else -1
theorem mostOf8 (x : Int32) (m : Mem) : f_X8_mostOf x m = some (mst9 x, m) := by
  unfold f_X8_mostOf X8_mostOf_J45 mst9
  rw [within_eq, cal_some, within_eq, cal_some]
  by_cases c1 : x = 0
  · rw [if_pos c1, if_pos c1]
  rw [if_neg c1, if_neg c1]
  by_cases c2 : x = 1
  · rw [if_pos c2, if_pos c2]
  rw [if_neg c2, if_neg c2]
  by_cases c3 : (3 : Int32) ≤ x ∧ x ≤ 8
  · rw [b2_t c3, if_neg (by decide), if_pos c3]
  · rw [b2_f c3, if_pos rfl, if_neg c3]
    by_cases c4 : (9 : Int32) ≤ x ∧ x ≤ 14
    · rw [b2_t c4, if_neg (by decide), if_pos c4]
    · rw [b2_f c4, if_pos rfl, if_neg c4]
theorem mst9_all : ∀ j, j ≤ 14 → j = 2 ∨ mst9 (nI j) = (if nI j = 0 then 6 else if (9 : Int32) ≤ nI j then 99 else 9) := by decide +kernel
theorem change5 {w k j : Nat} {m : Mem} {σ : Nat → Int32} (h : RepW m w σ) (hI : Inv σ) (hk : k < 6) (hj : j ≤ 14) (h2 : j ≠ 2) (v : Int32) : PW w m (f_X5_change (w + 7 + 3 * k) (nI j) v m) 0 (upd σ (16 + 21 * k + j) v) := by
  unfold f_X5_change X5_change_J68
  by_cases c0 : j = 0
  · subst c0
    rw [if_pos (show nI 0 = 0 from rfl), bnd_eq]
    have := h.wr hI (am_kind k hk) (by omega) (by omega) (by omega) (by omega) v
    rw [← Nat.add_assoc] at this
    exact ⟨_, rfl, this, by rw [Nat.add_assoc]; exact FrW.ms (by omega)⟩
  rw [if_neg (fun q => c0 ((eqI (x := 0) 0 rfl (by omega) (by omega)).mp q))]
  by_cases c1 : j = 1
  · subst c1
    rw [if_pos (show nI 1 = 1 from rfl), bnd_eq]
    have := h.wr hI (am_m k hk) (by omega) (by omega) (by omega) (by omega) v
    rw [← Nat.add_assoc] at this
    rw [show 16 + 21 * k + 1 = 17 + 21 * k by omega]
    exact ⟨_, rfl, this, by rw [Nat.add_assoc]; exact FrW.ms (by omega)⟩
  rw [if_neg (fun q => c1 ((eqI (x := 1) 1 rfl (by omega) (by omega)).mp q)), within_eq, cal_some, within_eq, cal_some]
  have l3 := lit_le (x := 3) 3 rfl (by omega) (by omega : j < 2 ^ 31)
  have l9 := lit_le (x := 9) 9 rfl (by omega) (by omega : j < 2 ^ 31)
  have l8 : (nI j ≤ 8) ↔ j ≤ 8 := nI_leI (b := 8) (by omega) (by omega)
  have l14 : (nI j ≤ 14) ↔ j ≤ 14 := nI_leI (b := 14) (by omega) (by omega)
  by_cases c3 : j ≤ 8
  · rw [b2_t (p := (3 : Int32) ≤ nI j ∧ nI j ≤ 8) ⟨l3.mpr (by omega), l8.mpr c3⟩, if_neg (by decide), nI_sub' (x := 3) (b := 3) rfl (by omega), inb_nI (by omega) (by omega), gd_t, bnd_eq, clamp_nI (by omega), locB]
    have := wr_keeps h hI (k := k) (g := j - 3) hk (by omega) v
    rw [show 19 + 21 * k + (j - 3) = 16 + 21 * k + j by omega] at this
    exact ⟨_, rfl, this, by rw [Nat.add_assoc]; exact FrW.ms (by omega)⟩
  · rw [b2_f (p := (3 : Int32) ≤ nI j ∧ nI j ≤ 8) (fun q => c3 (l8.mp q.2)), if_pos rfl, b2_t (p := (9 : Int32) ≤ nI j ∧ nI j ≤ 14) ⟨l9.mpr (by omega), l14.mpr hj⟩, if_neg (by decide), nI_sub' (x := 9) (b := 9) rfl (by omega), inb_nI (by omega) (by omega), gd_t, bnd_eq, clamp_nI (by omega), locC]
    have := wr_stock h hI (k := k) (g := j - 9) hk (by omega) v
    rw [show 25 + 21 * k + (j - 9) = 16 + 21 * k + j by omega] at this
    exact ⟨_, rfl, this, by rw [Nat.add_assoc]; exact FrW.ms (by omega)⟩
theorem mst_okS' : ∀ j, j ≤ 14 → j = 2 ∨ (List.range 100).all (fun v => decide (¬ nI v ≤ mst9 (nI j) ∨ ((j ≠ 0 ∨ v ≤ 6) ∧ (j ≠ 1 ∨ v ≤ 9) ∧ (¬ j < 9 ∨ v ≤ 9)))) = true := by decide +kernel
theorem mst_okS (j : Nat) (hj : j ≤ 14) (h2 : j ≠ 2) (v : Nat) (hv : v ≤ 99) (hle : nI v ≤ mst9 (nI j)) : (j = 0 → v ≤ 6) ∧ (j = 1 → v ≤ 9) ∧ (j < 9 → v ≤ 9) := by
  have := of_decide_eq_true (List.all_eq_true.mp ((mst_okS' j hj).resolve_left h2) v (List.mem_range.mpr (by omega)))
  have := this.resolve_left (fun q => q hle)
  omega
theorem mst_le : ∀ j, j ≤ 14 → j = 2 ∨ mst9 (nI j) ≤ 99 := by decide +kernel
theorem sim_set (h : Rel μ) (x y z : Int32) : Sm (f_X8_set 0 x y z μ) (f_X9_set 142 x y z) := by
  obtain ⟨h1, h2, h3⟩ := id h
  have h6 := h2.n6
  by_cases c2 : ((0 : Int32) ≤ y ∧ y ≤ 14) ∧ ¬ y = 2
  · obtain ⟨j, -, hj, e2⟩ := lit_rg 0 14 rfl rfl (by omega) (by omega) c2.1
    have hj2 : j ≠ 2 := fun q => c2.2 (by rw [e2, q]; rfl)
    have hv : ∀ m, f_X9_set 142 x y z m = X9_set_J22 142 x y z (mst9 y) m := by
      intro m
      unfold f_X9_set
      rw [e2, (mst9_all j hj).resolve_left hj2]
      by_cases q1 : nI j = 0
      · rw [if_pos q1, if_pos q1]
      · rw [if_neg q1, if_neg q1]
        by_cases q2 : (9 : Int32) ≤ nI j
        · rw [if_pos q2, if_pos q2]
        · rw [if_neg q2, if_neg q2]
    by_cases c1 : (0 : Int32) ≤ x ∧ x ≤ μ 143 0 - 1
    · obtain ⟨k, hk, e1⟩ := h2.sh c1
      by_cases c3 : (0 : Int32) ≤ z ∧ z ≤ mst9 y
      · obtain ⟨v, hv99, ez⟩ : ∃ v, v ≤ 99 ∧ z = nI v := by
          have hle : z ≤ 99 := Int32.le_trans c3.2 (by rw [e2]; exact (mst_le j hj).resolve_left hj2)
          obtain ⟨v, -, a, b⟩ := lit_rg 0 99 rfl rfl (by omega) (by omega) ⟨c3.1, hle⟩
          exact ⟨v, a, b⟩
        have hok : j < 15 → okS j z := by
          intro _
          have hq := mst_okS j hj hj2 v hv99 (by rw [← ez, ← e2]; exact c3.2)
          unfold okS
          rw [ez]
          split
          · rename_i q; exact nI_rg (n := 6) (hq.1 q) (by omega)
          · split
            · rename_i q; exact nI_rg (n := 9) (hq.2.1 q) (by omega)
            · split
              · rename_i q; exact nI_rg (n := 9) (hq.2.2 q) (by omega)
              · exact nI_rg (n := 99) hv99 (by omega)
        obtain ⟨μ1, a1, r1, f1⟩ := change5 h1 h2 (k := k) (j := j) (by omega) hj hj2 z
        have hm := f1.c1 143 (by omega)
        have hX : f_X8_set 0 x y z μ = some (fct (μ 143) k j, μ1) := by
          unfold f_X8_set
          rw [Nat.zero_add, hasShop7 h1, cal_some, b2_t c1, if_neg (by decide), mostOf8, cal_some, within_eq, cal_some, b2_t c3, if_neg (by decide), e1, e2, factOf7 h1 h2 hk (by omega), cal_some, inb_nI (by omega) (by omega), gd_t, clamp_nI (by omega), locA, a1, cal_some]
        refine Sm.mk h hX r1 f1.c1 (h2.uS (by omega) (by omega) hok) ⟨sR μ1 143 (upd (μ 143) (16 + 21 * k + j) z), ?_, sR_same _ _ _, FrM.s143 _ _⟩
        have hf : fct (μ 143) k j = μ 143 (16 + 21 * k + j) := by unfold fct; rw [if_neg (by omega)]
        rw [hv]
        unfold X9_set_J22
        rw [isShop9 hm, cal_some, b2_t c1, if_neg (by decide), in_eq, cal_some, b2_t c2.1, if_neg (by decide), if_neg c2.2, in_eq, cal_some, b2_t c3, if_neg (by decide), e1, e2, its9 (by omega), cal_some, lays9 (by omega), cal_some, hm, hf]
      · refine Sm.er h (k := 1) (by omega) ?_ (fun m e _ => ?_)
        · unfold f_X8_set X8_set_J23
          rw [Nat.zero_add, hasShop7 h1, cal_some, b2_t c1, if_neg (by decide), mostOf8, cal_some, within_eq, cal_some, b2_f c3, if_pos rfl]
          exact cal_e _
        · rw [hv]
          unfold X9_set_J22 X9_set_J57
          rw [isShop9 e, cal_some, b2_t c1, if_neg (by decide), in_eq, cal_some, b2_t c2.1, if_neg (by decide), if_neg c2.2, in_eq, cal_some, b2_f c3, if_pos rfl]
          exact cal_e _
    · refine Sm.er h (k := 1) (by omega) ?_ (fun m e _ => ?_)
      · unfold f_X8_set X8_set_J23
        rw [Nat.zero_add, hasShop7 h1, cal_some, b2_f c1, if_pos rfl]
        exact cal_e _
      · rw [hv]
        unfold X9_set_J22 X9_set_J57
        rw [isShop9 e, cal_some, b2_f c1, if_pos rfl]
        exact cal_e _
  · have hm1 : mst9 y = -1 := by
      unfold mst9
      rw [if_neg (fun q => c2 (by rw [q]; decide)), if_neg (fun q => c2 (by rw [q]; decide)), if_neg (fun q => ?_), if_neg (fun q => ?_)]
      · obtain ⟨j, a, b, e⟩ := lit_rg 9 14 rfl rfl (by omega) (by omega) q
        refine c2 ⟨⟨Int32.le_trans (by decide) q.1, q.2⟩, fun r => ?_⟩
        rw [r] at q
        exact absurd q.1 (by decide)
      · refine c2 ⟨⟨Int32.le_trans (by decide) q.1, Int32.le_trans q.2 (by decide)⟩, fun r => ?_⟩
        rw [r] at q
        exact absurd q.1 (by decide)
    have c3 : ¬ ((0 : Int32) ≤ z ∧ z ≤ mst9 y) := fun q => by
      rw [hm1] at q
      exact absurd (Int32.le_trans q.1 q.2) (by decide)
    have h22 : ∀ m t, m 143 = μ 143 → X9_set_J22 142 x y z t m = f_X9_error 142 1 m := by
      intro m t e
      unfold X9_set_J22 X9_set_J57
      rw [isShop9 e, cal_some]
      by_cases c1 : (0 : Int32) ≤ x ∧ x ≤ μ 143 0 - 1
      · rw [b2_t c1, if_neg (by decide), in_eq, cal_some]
        by_cases c4 : (0 : Int32) ≤ y ∧ y ≤ 14
        · rw [b2_t c4, if_neg (by decide), if_pos (Classical.byContradiction (fun q => c2 ⟨c4, q⟩))]
          exact cal_e _
        · rw [b2_f c4, if_pos rfl]
          exact cal_e _
      · rw [b2_f c1, if_pos rfl]
        exact cal_e _
    refine Sm.er h (k := 1) (by omega) ?_ (fun m e _ => ?_)
    · unfold f_X8_set X8_set_J23
      rw [Nat.zero_add, hasShop7 h1, cal_some, mostOf8, cal_some, within_eq, cal_some, b2_f c3, if_pos rfl, cal_e]
      by_cases c1 : (0 : Int32) ≤ x ∧ x ≤ μ 143 0 - 1
      · rw [b2_t c1, if_neg (by decide)]
        rfl
      · rw [b2_f c1, if_pos rfl]
        rfl
    · unfold f_X9_set
      rw [h22 m _ e, h22 m _ e, h22 m _ e]
      split
      · rfl
      · split <;> rfl
end OPS2
