/-! PURE 28: sheets, and what was begun -/
section
theorem Rel.sh {μ μ2 : Mem} (h : Rel μ) (he : ∀ l, l < 134 ∨ (141 < l ∧ l < 151) → μ2 l = μ l) (hk : ∀ i, i < 4 → ShOk μ2 i) : Rel μ2 := by
  obtain ⟨h1, h2, ⟨⟨i1, i2⟩, i3, ⟨i4, i5, i6⟩, -⟩⟩ := h
  have e143 := he 143 (by omega)
  have e142 := he 142 (by omega)
  refine ⟨?_, by rw [e143]; exact h2, ⟨⟨?_, fun hn => ?_⟩, fun k hk => ?_, ⟨?_, ?_, fun j hj => ?_⟩, hk⟩⟩
  · rw [e143]
    exact h1.fr h2 (fun l a b => he l (by omega))
  · rw [he 0 (by omega), e142]
    exact i1
  · rw [e142] at hn
    rw [he 144 (by omega)]
    exact ⟨(i2 hn).1.fr (i2 hn).2 (fun l a b => he l (by omega)), (i2 hn).2⟩
  · rw [he 133 (by omega), he 146 (by omega)]
    exact i3 k hk
  · rw [he 128 (by omega), e142]
    exact i4
  · rw [e142]
    exact i5
  · rw [e142] at hj
    rw [he 129 (by omega), he 150 (by omega)]
    exact i6 j hj
theorem er_at {μ m : Mem} (f : FrC μ (sR m 133 (μ 133))) {l : Nat} (hl : oc l ∨ 143 ≤ l) (hn : l ≠ 133) : m l = μ l := by
  have := f l hl
  rwa [sR_ne hn] at this
theorem sim_body {μ : Mem} (h : Rel μ) (x : Int32) : Sm (f_X8_body 0 x μ) (f_X9_body 142 x) := by
  obtain ⟨h1, h2, h3⟩ := id h
  obtain ⟨-, -, ⟨t1, t2, t3⟩, -⟩ := id h3
  by_cases c : (0 : Int32) ≤ x ∧ x ≤ μ 142 13 - 1
  · obtain ⟨q1, q2⟩ := rg_clamp (n := 30) t2 (by omega)
    obtain ⟨k, hk, e⟩ := up_to q2 q1 (by omega) c
    have hX : f_X8_body 0 x μ = some (μ 129 k, μ) := by
      unfold f_X8_body
      simp only [Nat.zero_add]
      rw [t1, within_eq, cal_some, b2_t c, if_neg (by decide), e, inb_nI (by omega) (by omega), gd_t, clamp_nI (by omega)]
    rw [t3 k hk] at hX
    refine Sm.mk h hX h1 (FrC.rf _) h2 ⟨μ, ?_, rfl, FrM.rf _⟩
    unfold f_X9_body X9_body_J28
    rw [in_eq, cal_some, b2_t c, if_neg (by decide), e, inb_nI (by omega) (by omega), gd_t, clamp_nI (by omega)]
  · refine Sm.er h (k := 2) (by omega) ?_ (fun m e f => ?_)
    · unfold f_X8_body
      simp only [Nat.zero_add]
      rw [t1, within_eq, cal_some, b2_f c, if_pos rfl]
      exact cal_e _
    · have e142 : m 142 = μ 142 := er_at f (Or.inl (by unfold oc; omega)) (by omega)
      unfold f_X9_body X9_body_J28
      rw [e142, in_eq, cal_some, b2_f c, if_pos rfl]
      exact cal_e _
theorem isSheet8 (x : Int32) (m : Mem) : f_X8_isSheet x m = some (b2 ((0 : Int32) ≤ x ∧ x ≤ 3), m) := by
  unfold f_X8_isSheet
  rw [within_eq, cal_some, b2_isb, gd_t]
theorem isSheet9 (x : Int32) (m : Mem) : f_X9_isSheet x m = some (b2 ((0 : Int32) ≤ x ∧ x ≤ 3), m) := by
  unfold f_X9_isSheet
  rw [in_eq, cal_some, b2_isb, gd_t]
theorem if4 {α : Type} (x : Int32) (A B : α) : (if x = 0 then A else if x = 8 then A else if x = 16 then A else if x = 32 then A else B) = if (x = 0 ∨ x = 8 ∨ x = 16 ∨ x = 32) then A else B := by
  by_cases a : x = 0
  · rw [if_pos a, if_pos (Or.inl a)]
  by_cases b : x = 8
  · rw [if_neg a, if_pos b, if_pos (Or.inr (Or.inl b))]
  by_cases c : x = 16
  · rw [if_neg a, if_neg b, if_pos c, if_pos (Or.inr (Or.inr (Or.inl c)))]
  by_cases d : x = 32
  · rw [if_neg a, if_neg b, if_neg c, if_pos d, if_pos (Or.inr (Or.inr (Or.inr d)))]
  · rw [if_neg a, if_neg b, if_neg c, if_neg d, if_neg (by rintro (q | q | q | q); exact a q; exact b q; exact c q; exact d q)]
theorem i24 (k i : Nat) : (24 : Int32) * nI k + nI i = nI (24 * k + i) := by
  show nI 24 * nI k + nI i = _
  rw [nI_mul, nI_add]
theorem sheet90 {k : Nat} (hk : k < 4) : ∀ d i (μ : Mem) n, i + d = 24 → d < n → X9_sheet_L90 n 142 (nI k) (nI i) μ = some (1, sR μ 153 (fun j => if 24 * k + i ≤ j ∧ j < 24 * k + 24 then 0 else μ 153 j)) := by
  intro d
  induction d with
  | zero =>
    intro i μ n hi hn
    obtain ⟨n, rfl⟩ : ∃ m, n = m + 1 := ⟨n - 1, by omega⟩
    show X9_sheet_L90B _ 142 (nI k) (nI i) μ = _
    unfold X9_sheet_L90B
    rw [if_pos ((lit_le (x := 24) 24 rfl (by omega) (by omega : i < 2 ^ 31)).mpr (by omega))]
    have : (fun j => if 24 * k + i ≤ j ∧ j < 24 * k + 24 then 0 else μ 153 j) = μ 153 := funext (fun j => if_neg (by omega))
    rw [this, sR_id]
  | succ d ih =>
    intro i μ n hi hn
    obtain ⟨n, rfl⟩ : ∃ m, n = m + 1 := ⟨n - 1, by omega⟩
    show X9_sheet_L90B _ 142 (nI k) (nI i) μ = _
    unfold X9_sheet_L90B
    rw [if_neg (fun q => absurd ((lit_le (x := 24) 24 rfl (by omega) (by omega : i < 2 ^ 31)).mp q) (by omega)), i24, inb_nI (by omega) (by omega), gd_t, bnd_eq, bnd_eq, nI_s, clamp_nI (by omega), show (142 + 11 : Nat) = 153 from rfl, ih (i + 1) _ n (by omega) (by omega), mset_sR, sR_sR, sR_same]
    have hf : (fun j => if 24 * k + (i + 1) ≤ j ∧ j < 24 * k + 24 then 0 else upd (μ 153) (24 * k + i) 0 j) = (fun j => if 24 * k + i ≤ j ∧ j < 24 * k + 24 then 0 else μ 153 j) := by
      funext j
      by_cases e : j = 24 * k + i
      · rw [e, if_neg (by omega), if_pos (by omega), upd_same]
      · rw [upd_ne e]
        by_cases q : 24 * k + i ≤ j ∧ j < 24 * k + 24
        · rw [if_pos q, if_pos (by omega)]
        · rw [if_neg q, if_neg (by omega)]
    rw [hf]
theorem locS (k : Nat) : 124 + 10 + 2 * k = 134 + 2 * k := by omega
theorem locT (k : Nat) : 134 + 2 * k + 1 = 135 + 2 * k := by omega
theorem layOk {μ : Mem} (h : Rel μ) {k : Nat} (hk : k < 4) {b L : Int32} (hb : b = 0 ∨ b = 8 ∨ b = 16 ∨ b = 32) (hL : rg L 0 24) {X : Res} {Y : Mem → Res} (hX : X = X8_sheet_J81 (134 + 2 * k) b L μ) (hY : ∀ m, Y m = X9_sheet_J86 142 (nI k) 152 (nI k) L (mset m 151 k b)) : Sm X Y := by
  obtain ⟨m1, a1, f1, r0, r1, rr⟩ : ∃ m1, X = some (1, m1) ∧ (∀ l, l ≠ 134 + 2 * k → l ≠ 135 + 2 * k → m1 l = μ l) ∧ m1 (134 + 2 * k) 0 = b ∧ m1 (134 + 2 * k) 1 = L ∧ ∀ j, j < 24 → m1 (135 + 2 * k) j = 0 := by
    refine ⟨sR (mset (mset μ (134 + 2 * k) 0 b) (134 + 2 * k) 1 L) (135 + 2 * k) (fun j => if j < 24 then 0 else μ (135 + 2 * k) j), ?_, fun l a b => ?_, ?_, ?_, fun j hj => ?_⟩
    · rw [hX]
      unfold X8_sheet_J81 f_X4_lay
      rw [bnd_eq, bnd_eq, locT, fill7 (by omega), cal_some, cal_some, mset_row (by omega), mset_row (by omega)]
    · rw [sR_ne b, mset_row a, mset_row a]
    · rw [sR_ne (by omega), mset_ne (by omega), mset_self]
    · rw [sR_ne (by omega), mset_self]
    · rw [sR_same, if_pos hj]
  obtain ⟨m2, a2, f2, s1, s2, s3⟩ : ∃ m2, Y m1 = some (1, m2) ∧ (∀ l, l ≠ 151 → l ≠ 152 → l ≠ 153 → m2 l = m1 l) ∧ m2 151 = upd (m1 151) k b ∧ m2 152 = upd (m1 152) k L ∧ m2 153 = (fun j => if 24 * k + 0 ≤ j ∧ j < 24 * k + 24 then 0 else m1 153 j) := by
    refine ⟨sR (mset (mset m1 151 k b) 152 k L) 153 (fun j => if 24 * k + 0 ≤ j ∧ j < 24 * k + 24 then 0 else mset (mset m1 151 k b) 152 k L 153 j), ?_, fun l a b c => ?_, ?_, ?_, ?_⟩
    · rw [hY]
      unfold X9_sheet_J86
      rw [inb_nI hk (by omega), gd_t, clamp_nI (by omega), bnd_eq]
      exact sheet90 hk 24 0 _ FU (by omega) (by decide)
    · rw [sR_ne c, mset_row b, mset_row a]
    · rw [sR_ne (by omega), mset_row (by omega), mset_sR, sR_same]
    · rw [sR_ne (by omega), mset_sR, sR_same, mset_row (by omega)]
    · rw [sR_same, mset_row (by omega), mset_row (by omega)]
  refine ⟨1, m1, m2, a1, a2, h.sh (fun l hl => by rw [f2 l (by omega) (by omega) (by omega), f1 l (by omega) (by omega)]) (fun i hi => ?_)⟩
  have e151 : m1 151 = μ 151 := f1 151 (by omega) (by omega)
  have e152 : m1 152 = μ 152 := f1 152 (by omega) (by omega)
  have e153 : m1 153 = μ 153 := f1 153 (by omega) (by omega)
  unfold ShOk
  rw [f2 (134 + 2 * i) (by omega) (by omega) (by omega), f2 (135 + 2 * i) (by omega) (by omega) (by omega), s1, s2, s3, e151, e152, e153]
  by_cases e : i = k
  · subst e
    rw [upd_same, upd_same, r0, r1]
    refine ⟨rfl, rfl, hb, hL, fun j hj => ?_⟩
    exact (rr j hj).trans (if_pos (by omega)).symm
  · rw [upd_ne e, upd_ne e, f1 (134 + 2 * i) (by omega) (by omega), f1 (135 + 2 * i) (by omega) (by omega)]
    obtain ⟨a, b', c, d, e'⟩ := h.2.2.2.2.2 i hi
    refine ⟨a, b', c, d, fun j hj => ?_⟩
    exact (e' j hj).trans (if_neg (by omega)).symm
theorem sim_sheet {μ : Mem} (h : Rel μ) (x y z : Int32) : Sm (f_X8_sheet 0 x y z μ) (f_X9_sheet 142 x y z) := by
  by_cases c1 : (0 : Int32) ≤ x ∧ x ≤ 3
  · obtain ⟨k, -, hk, e1⟩ := lit_rg 0 3 rfl rfl (by omega) (by omega) c1
    have hX0 : f_X8_sheet 0 x y z μ = if (y = 0 ∨ y = 8 ∨ y = 16 ∨ y = 32) then X8_sheet_J35 0 x y z μ else X8_sheet_J29 0 μ := by
      unfold f_X8_sheet
      rw [isSheet8, cal_some, b2_t c1, if_neg (by decide), if4]
    have hY0 : ∀ m : Mem, f_X9_sheet 142 x y z m = if (y = 0 ∨ y = 8 ∨ y = 16 ∨ y = 32) then X9_sheet_J35 142 x y z m else X9_sheet_J29 142 m := by
      intro m
      unfold f_X9_sheet
      rw [isSheet9, cal_some, b2_t c1, if_neg (by decide), if4]
    by_cases c2 : y = 0 ∨ y = 8 ∨ y = 16 ∨ y = 32
    · rw [if_pos c2] at hX0
      by_cases c0 : y = 0
      · refine layOk h (k := k) (by omega) c2 (L := 0) (by unfold rg; decide) ?_ (fun m => ?_)
        · rw [hX0]
          unfold X8_sheet_J35 X8_sheet_J49 X8_sheet_J65
          simp only [Nat.zero_add]
          rw [if_pos c0, if_pos c0, e1, inb_nI (by omega) (by omega), gd_t, if_pos c0, clamp_nI (by omega), locS]
        · rw [hY0, if_pos c2]
          unfold X9_sheet_J35 X9_sheet_J49 X9_sheet_J65
          rw [if_pos c0, if_pos c0, e1, inb_nI (by omega) (by omega), gd_t, bnd_eq, if_pos c0, clamp_nI (by omega)]
      · by_cases c3 : 0 ≤ z
        · by_cases c4 : z ≤ 24
          · refine layOk h (k := k) (by omega) c2 (L := z) ((le_rg 0 24 (by decide) (by decide)).mp ⟨c3, c4⟩) ?_ (fun m => ?_)
            · rw [hX0]
              unfold X8_sheet_J35 X8_sheet_J49 X8_sheet_J65
              simp only [Nat.zero_add]
              rw [if_neg c0, if_pos c3, if_neg c0, if_pos c4, e1, inb_nI (by omega) (by omega), gd_t, if_neg c0, clamp_nI (by omega), locS]
            · rw [hY0, if_pos c2]
              unfold X9_sheet_J35 X9_sheet_J49 X9_sheet_J65
              rw [if_neg c0, if_pos c3, if_neg c0, if_pos c4, e1, inb_nI (by omega) (by omega), gd_t, bnd_eq, if_neg c0, clamp_nI (by omega)]
          · refine Sm.er h (k := 1) (by omega) ?_ (fun m e _ => ?_)
            · rw [hX0]
              unfold X8_sheet_J35 X8_sheet_J49
              rw [if_neg c0, if_pos c3, if_neg c0, if_neg c4]
              exact cal_e _
            · rw [hY0, if_pos c2]
              unfold X9_sheet_J35 X9_sheet_J49
              rw [if_neg c0, if_pos c3, if_neg c0, if_neg c4]
              exact cal_e _
        · refine Sm.er h (k := 3) (by omega) ?_ (fun m e _ => ?_)
          · rw [hX0]
            unfold X8_sheet_J35
            rw [if_neg c0, if_neg c3]
            exact cal_e _
          · rw [hY0, if_pos c2]
            unfold X9_sheet_J35
            rw [if_neg c0, if_neg c3]
            exact cal_e _
    · refine Sm.er h (k := 1) (by omega) ?_ (fun m e _ => ?_)
      · rw [hX0, if_neg c2]
        exact cal_e _
      · rw [hY0, if_neg c2]
        exact cal_e _
  · refine Sm.er h (k := 1) (by omega) ?_ (fun m e _ => ?_)
    · unfold f_X8_sheet
      rw [isSheet8, cal_some, b2_f c1, if_pos rfl]
      exact cal_e _
    · unfold f_X9_sheet
      rw [isSheet9, cal_some, b2_f c1, if_pos rfl]
      exact cal_e _
theorem missing4 (a : Nat) (m : Mem) : f_X4_isMissing a m = some (b2 (m a 0 = 0), m) := by
  unfold f_X4_isMissing X4_isMissing_J12
  by_cases c : m a 0 = 0
  · rw [if_pos c, b2_t c]; rfl
  · rw [if_neg c, b2_f c]; rfl
theorem ShOk.at {μ : Mem} (h : Rel μ) {i : Nat} (hi : i < 4) : ShOk μ i := h.2.2.2.2.2 i hi
/-- what a sheet of so many bits makes of a number -/
def wrt (b v : Int32) : Int32 := isr (isl v (32 - b)) (32 - b)
theorem write4 {a : Nat} {m : Mem} {b : Int32} (hb : b = 8 ∨ b = 16 ∨ b = 32) (hm : m a 0 = b) {i : Nat} (hi : i < 24) (v : Int32) : f_X4_write a (nI i) v m = some (0, mset m (a + 1) i (wrt b v)) := by
  unfold f_X4_write X4_write_J47 wrt
  rw [hm, inb_nI hi (by omega), gd_t, gd_t, gd_t, bnd_eq, bnd_eq, bnd_eq, clamp_nI (by omega)]
  rcases hb with rfl | rfl | rfl
  · rw [if_pos rfl, by_8]; rfl
  · rw [if_neg (by decide), if_pos rfl, by_16]; rfl
  · rw [if_neg (by decide), if_neg (by decide)]
    have := by_32 v
    rw [show (32 - 32 : Int32) = 0 from by decide, ← this]
theorem sim_put {μ : Mem} (h : Rel μ) (x y z : Int32) : Sm (f_X8_put 0 x y z μ) (f_X9_put 142 x y z) := by
  by_cases c1 : (0 : Int32) ≤ x ∧ x ≤ 3
  · obtain ⟨k, -, hk, e1⟩ := lit_rg 0 3 rfl rfl (by omega) (by omega) c1
    obtain ⟨s1, s2, s3, s4, s5⟩ := ShOk.at h (i := k) (by omega)
    by_cases c2 : μ 151 k = 0
    · refine Sm.er h (k := 2) (by omega) ?_ (fun m e f => ?_)
      · unfold f_X8_put
        simp only [Nat.zero_add]
        rw [isSheet8, cal_some, b2_t c1, if_neg (by decide), e1, inb_nI (by omega) (by omega), gd_t, clamp_nI (by omega), locS, missing4, cal_some, s1, b2_t c2, if_neg (by decide)]
        exact cal_e _
      · have e151 : m 151 = μ 151 := er_at f (Or.inl (by unfold oc; omega)) (by omega)
        unfold f_X9_put
        rw [isSheet9, cal_some, b2_t c1, if_neg (by decide), e1, inb_nI (by omega) (by omega), gd_t, clamp_nI (by omega), show (142 + 9 : Nat) = 151 from rfl, e151, if_pos c2]
        exact cal_e _
    · obtain ⟨q1, q2⟩ := rg_clamp (n := 24) s4 (by omega)
      by_cases c3 : (0 : Int32) ≤ y ∧ y ≤ μ 152 k - 1
      · obtain ⟨i, hi, e2⟩ := up_to q2 q1 (by omega) c3
        have hX : f_X8_put 0 x y z μ = some (1, mset μ (135 + 2 * k) i (wrt (μ 151 k) z)) := by
          unfold f_X8_put
          simp only [Nat.zero_add]
          rw [isSheet8, cal_some, b2_t c1, if_neg (by decide), e1, inb_nI (by omega) (by omega), gd_t, clamp_nI (by omega), locS, missing4, cal_some, s1, b2_f c2, if_pos rfl, gd_t, s2, within_eq, cal_some, b2_t c3, if_neg (by decide), gd_t, e2, write4 (s3.resolve_left c2) s1 (by omega), cal_some, locT]
        generalize hm : mset μ (135 + 2 * k) i (wrt (μ 151 k) z) = m1 at hX
        have fo : ∀ l, l ≠ 135 + 2 * k → m1 l = μ l := fun l a => by rw [← hm]; exact mset_row a
        have hY : f_X9_put 142 x y z m1 = some (1, mset m1 153 (24 * k + i) (wrt (μ 151 k) z)) := by
          unfold f_X9_put wrt
          rw [isSheet9, cal_some, b2_t c1, if_neg (by decide), e1, inb_nI (by omega) (by omega), gd_t, clamp_nI (by omega), show (142 + 9 : Nat) = 151 from rfl, show (142 + 10 : Nat) = 152 from rfl, show (142 + 11 : Nat) = 153 from rfl, fo 151 (by omega), if_neg c2, gd_t, fo 152 (by omega), in_eq, cal_some, b2_t c3, if_neg (by decide), gd_t, bnd_eq, e2, i24, inb_nI (by omega) (by omega), gd_t, bnd_eq, clamp_nI (by omega), fo 151 (by omega)]
        generalize hm2 : mset m1 153 (24 * k + i) (wrt (μ 151 k) z) = m2 at hY
        have fo2 : ∀ l, l ≠ 153 → m2 l = m1 l := fun l a => by rw [← hm2]; exact mset_row a
        refine ⟨1, m1, m2, hX, hY, h.sh (fun l hl => by rw [fo2 l (by omega), fo l (by omega)]) (fun j hj => ?_)⟩
        unfold ShOk
        rw [fo2 (134 + 2 * j) (by omega), fo2 (135 + 2 * j) (by omega), fo2 151 (by omega), fo2 152 (by omega), fo (134 + 2 * j) (by omega), fo 151 (by omega), fo 152 (by omega)]
        obtain ⟨a, b', c, d, e'⟩ := ShOk.at h hj
        refine ⟨a, b', c, d, fun p hp => ?_⟩
        by_cases e : j = k ∧ p = i
        · obtain ⟨rfl, rfl⟩ := e
          rw [← hm2, mset_self, ← hm, mset_self]
        · rw [← hm2, mset_ne (by omega), fo 153 (by omega), ← hm, mset_ne (by omega)]
          exact e' p hp
      · refine Sm.er h (k := 1) (by omega) ?_ (fun m e f => ?_)
        · unfold f_X8_put
          simp only [Nat.zero_add]
          rw [isSheet8, cal_some, b2_t c1, if_neg (by decide), e1, inb_nI (by omega) (by omega), gd_t, clamp_nI (by omega), locS, missing4, cal_some, s1, b2_f c2, if_pos rfl, gd_t, s2, within_eq, cal_some, b2_f c3, if_pos rfl]
          exact cal_e _
        · have e151 : m 151 = μ 151 := er_at f (Or.inl (by unfold oc; omega)) (by omega)
          have e152 : m 152 = μ 152 := er_at f (Or.inl (by unfold oc; omega)) (by omega)
          unfold f_X9_put
          rw [isSheet9, cal_some, b2_t c1, if_neg (by decide), e1, inb_nI (by omega) (by omega), gd_t, clamp_nI (by omega), show (142 + 9 : Nat) = 151 from rfl, show (142 + 10 : Nat) = 152 from rfl, e151, if_neg c2, gd_t, e152, in_eq, cal_some, b2_f c3, if_pos rfl]
          exact cal_e _
  · refine Sm.er h (k := 1) (by omega) ?_ (fun m e _ => ?_)
    · unfold f_X8_put
      rw [isSheet8, cal_some, b2_f c1, if_pos rfl]
      exact cal_e _
    · unfold f_X9_put
      rw [isSheet9, cal_some, b2_f c1, if_pos rfl]
      exact cal_e _
end
