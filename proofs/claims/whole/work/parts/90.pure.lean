/-! PURE 50: the law's loop, and its start -/
section
theorem sm_fin {sn : Nat} {xs : Nat → Int32} {K : Nat → Nat → Int32 → Mem → Res} {i : Nat} {X : Res} {Y : Mem → Res} (hs : Sm X Y) : ∃ μ', cal X (fun r m => cal (Y m) (fun r' m' => if r = r' then law_J1428 sn xs K 0 142 (nI i) m' else none)) = K 0 142 (nI (i + 6)) μ' ∧ Rel μ' := by
  obtain ⟨r, μ1, μ2, hX, hY, hR⟩ := hs
  refine ⟨μ2, ?_, hR⟩
  rw [hX, cal_some, hY, cal_some, if_pos rfl]
  unfold law_J1428
  rw [bnd_eq]
  show K 0 142 (nI i + nI 6) μ2 = _
  rw [nI_add]
theorem in_j {sn i j : Nat} {x : Int32} (hx : x = nI j) (h : i + j < sn) (hs : sn ≤ 384) : inb (nI i + x) sn = true := by
  rw [hx, nI_add]
  exact inb_nI h (by omega)
set_option maxRecDepth 10000 in
theorem law_step {sn : Nat} (hsn : sn ≤ 384) (xs : Nat → Int32) (K : Nat → Nat → Int32 → Mem → Res) {i : Nat} (hi : i + 6 ≤ sn) {μ : Mem} (h : Rel μ) : ∃ μ', law_L18B sn xs K 0 142 (nI i) μ = K 0 142 (nI (i + 6)) μ' ∧ Rel μ' := by
  have hlt : ¬ (Int32.ofNat sn - 6 < nI i) := by
    have e : Int32.ofNat sn - 6 = nI (sn - 6) := nI_sub' (x := 6) (b := 6) rfl (by omega)
    rw [e]
    exact fun q => absurd ((nI_ltI (by omega) (by omega)).mp q) (by omega)
  unfold law_L18B
  rw [if_neg hlt, inb_nI (k := i) (by omega) (by omega), gd_t]
  simp only [in_j (x := 1) (j := 1) rfl (show i + 1 < sn by omega) hsn, in_j (x := 2) (j := 2) rfl (show i + 2 < sn by omega) hsn, in_j (x := 3) (j := 3) rfl (show i + 3 < sn by omega) hsn, in_j (x := 4) (j := 4) rfl (show i + 4 < sn by omega) hsn, in_j (x := 5) (j := 5) rfl (show i + 5 < sn by omega) hsn, gd_t]
  generalize xs (nI i).toNatClampNeg &&& 63 = v
  by_cases c0 : v = 0
  · rw [if_pos c0]
    exact sm_fin (sim_cost h _ _)
  rw [if_neg c0]
  by_cases c1 : v = 1
  · rw [if_pos c1]
    exact sm_fin (sim_rule h _ _)
  rw [if_neg c1]
  by_cases c2 : v = 2
  · rw [if_pos c2]
    exact sm_fin (sim_shop h _)
  rw [if_neg c2]
  by_cases c3 : v = 3
  · rw [if_pos c3]
    exact sm_fin (sim_shopIs h _ _)
  rw [if_neg c3]
  by_cases c4 : v = 4
  · rw [if_pos c4]
    exact sm_fin (sim_as h _ _)
  rw [if_neg c4]
  by_cases c5 : v = 5
  · rw [if_pos c5]
    exact sm_fin (sim_set h _ _ _)
  rw [if_neg c5]
  by_cases c6 : v = 6
  · rw [if_pos c6]
    exact sm_fin (sim_price h _ _)
  rw [if_neg c6]
  by_cases c7 : v = 7
  · rw [if_pos c7]
    exact sm_fin (sim_fills h _ _)
  rw [if_neg c7]
  by_cases c8 : v = 8
  · rw [if_pos c8]
    exact sm_fin (sim_customer h _ _ _)
  rw [if_neg c8]
  by_cases c9 : v = 9
  · rw [if_pos c9]
    exact sm_fin (sim_customerIs h _ _)
  rw [if_neg c9]
  by_cases c10 : v = 10
  · rw [if_pos c10]
    exact sm_fin (sim_leave h)
  rw [if_neg c10]
  by_cases c11 : v = 11
  · rw [if_pos c11]
    exact sm_fin (sim_feed h _ _)
  rw [if_neg c11]
  by_cases c12 : v = 12
  · rw [if_pos c12]
    exact sm_fin (sim_text h _)
  rw [if_neg c12]
  by_cases c13 : v = 13
  · rw [if_pos c13]
    exact sm_fin (sim_untell h _)
  rw [if_neg c13]
  by_cases c14 : v = 14
  · rw [if_pos c14]
    exact sm_fin (sim_morning h)
  rw [if_neg c14]
  by_cases c15 : v = 15
  · rw [if_pos c15]
    exact sm_fin (sim_visit h _)
  rw [if_neg c15]
  by_cases c16 : v = 16
  · rw [if_pos c16]
    exact sm_fin (sim_days h _)
  rw [if_neg c16]
  by_cases c17 : v = 17
  · rw [if_pos c17]
    exact sm_fin (sim_loose h _)
  rw [if_neg c17]
  by_cases c18 : v = 18
  · rw [if_pos c18]
    exact sm_fin (sim_seed h _)
  rw [if_neg c18]
  by_cases c19 : v = 19
  · rw [if_pos c19]
    exact sm_fin (sim_then h _ _ _)
  rw [if_neg c19]
  by_cases c20 : v = 20
  · rw [if_pos c20]
    exact sm_fin (sim_keep h _ _ _)
  rw [if_neg c20]
  by_cases c21 : v = 21
  · rw [if_pos c21]
    exact sm_fin (sim_range h _ _)
  rw [if_neg c21]
  by_cases c22 : v = 22
  · rw [if_pos c22]
    exact sm_fin (sim_turn h _ _)
  rw [if_neg c22]
  by_cases c23 : v = 23
  · rw [if_pos c23]
    exact sm_fin (sim_out h _ _)
  rw [if_neg c23]
  by_cases c24 : v = 24
  · rw [if_pos c24]
    exact sm_fin (sim_joined h _ _)
  rw [if_neg c24]
  by_cases c25 : v = 25
  · rw [if_pos c25]
    exact sm_fin (sim_walk h _)
  rw [if_neg c25]
  by_cases c26 : v = 26
  · rw [if_pos c26]
    exact sm_fin (sim_voice h _ _ _)
  rw [if_neg c26]
  by_cases c27 : v = 27
  · rw [if_pos c27]
    exact sm_fin (sim_body h _)
  rw [if_neg c27]
  by_cases c28 : v = 28
  · rw [if_pos c28]
    exact sm_fin (sim_sheet h _ _ _)
  rw [if_neg c28]
  by_cases c29 : v = 29
  · rw [if_pos c29]
    exact sm_fin (sim_put h _ _ _)
  rw [if_neg c29]
  by_cases c30 : v = 30
  · rw [if_pos c30]
    exact sm_fin (sim_move h _ _ _ _ _)
  rw [if_neg c30]
  by_cases c31 : v = 31
  · rw [if_pos c31]
    exact sm_fin (sim_customers h _)
  rw [if_neg c31]
  by_cases c32 : v = 32
  · rw [if_pos c32]
    exact sm_fin (sim_judge h _)
  rw [if_neg c32]
  by_cases c33 : v = 33
  · rw [if_pos c33]
    exact sm_fin (sim_came h _ _ _)
  rw [if_neg c33]
  by_cases c34 : v = 34
  · rw [if_pos c34]
    exact sm_fin (sim_image h)
  rw [if_neg c34]
  by_cases c35 : v = 35
  · rw [if_pos c35]
    exact sm_fin (sim_restore h)
  rw [if_neg c35]
  by_cases c36 : v = 36
  · rw [if_pos c36]
    exact sm_fin (sim_tell h _)
  rw [if_neg c36]
  by_cases c37 : v = 37
  · rw [if_pos c37]
    exact sm_fin (sim_check h)
  rw [if_neg c37]
  by_cases c38 : v = 38
  · rw [if_pos c38]
    exact sm_fin (sim_count h _)
  rw [if_neg c38]
  by_cases c39 : v = 39
  · rw [if_pos c39]
    exact sm_fin (sim_told h _)
  rw [if_neg c39]
  refine ⟨μ, ?_, h⟩
  unfold law_J1428
  rw [bnd_eq]
  show K 0 142 (nI i + nI 6) μ = _
  rw [nI_add]
theorem law_loop {sn : Nat} (hsn : sn ≤ 384) (xs : Nat → Int32) : ∀ d i (μ : Mem) n, i + 6 * d ≤ sn → sn < i + 6 * d + 6 → d < n → Rel μ → ∃ μ', law_L18 sn xs n 0 142 (nI i) μ = some (1, μ') := by
  intro d
  induction d with
  | zero =>
    intro i μ n h1 h2 hn hR
    obtain ⟨n, rfl⟩ : ∃ m, n = m + 1 := ⟨n - 1, by omega⟩
    refine ⟨μ, ?_⟩
    show law_L18B sn xs _ 0 142 (nI i) μ = _
    unfold law_L18B
    have hlt : Int32.ofNat sn - 6 < nI i := by
      rw [Int32.lt_iff_toInt_lt, sub_toInt (by rw [show (Int32.ofNat sn).toInt = sn from nI_toInt (by omega)]; omega) (by decide), show (Int32.ofNat sn).toInt = sn from nI_toInt (by omega), nI_toInt (by omega), show (6 : Int32).toInt = 6 from by decide]
      omega
    rw [if_pos hlt]
  | succ d ih =>
    intro i μ n h1 h2 hn hR
    obtain ⟨n, rfl⟩ : ∃ m, n = m + 1 := ⟨n - 1, by omega⟩
    obtain ⟨μ1, e1, r1⟩ := law_step hsn xs (law_L18 sn xs n) (i := i) (by omega) hR
    obtain ⟨μ2, e2⟩ := ih (i + 6) μ1 n (by omega) (by omega) (by omega) r1
    exact ⟨μ2, e1.trans e2⟩
theorem mst_am : (List.range 516).all (fun i => match am i with
  | some p => decide (mst (1 + p.1) p.2 = mst 143 i)
  | none => true) = true := by decide +kernel
theorem mst_0 : nS (mst 143) = 0 ∧ nC (mst 143) = 0 ∧ nT (mst 143) = 0 ∧ mst 143 182 = 0 ∧ mst 143 307 = 0 ∧ mst 36 1 = 0 ∧ mst 39 1 = 0 ∧ mst 0 8 = 0 ∧ mst 142 3 = 0 ∧ mst 128 1 = 0 ∧ mst 142 13 = 0 := by decide +kernel
theorem mst_r : (0 ≤ (mst 143 0).toInt ∧ (mst 143 0).toInt ≤ 6) ∧ (0 ≤ (mst 143 1).toInt ∧ (mst 143 1).toInt ≤ 10) ∧ (0 ≤ (mst 143 4).toInt ∧ (mst 143 4).toInt ≤ 1) ∧ (0 ≤ (mst 143 5).toInt ∧ (mst 143 5).toInt ≤ 2) ∧ (0 ≤ (mst 143 6).toInt ∧ (mst 143 6).toInt ≤ 60) ∧ (0 ≤ (mst 143 7).toInt ∧ (mst 143 7).toInt ≤ 24) ∧ (∀ g, g < 6 → 0 ≤ (mst 143 (10 + g)).toInt ∧ (mst 143 (10 + g)).toInt ≤ 99) := by decide +kernel
theorem mst_e : ∀ k, k < 7 → mst 133 k = mst 146 k := by decide +kernel
theorem mst_s : ∀ i, i < 4 → mst (134 + 2 * i) 0 = mst 151 i ∧ mst (134 + 2 * i) 1 = mst 152 i ∧ mst 151 i = 0 ∧ (0 ≤ (mst 152 i).toInt ∧ (mst 152 i).toInt ≤ 24) ∧ ∀ j, j < 24 → mst (135 + 2 * i) j = mst 153 (24 * i + j) := by decide +kernel
theorem mst_t {u : Nat} (hu : u < 2) : mst 143 (182 + 125 * u) = 0 := by
  rcases (show u = 0 ∨ u = 1 by omega) with rfl | rfl
  · exact mst_0.2.2.2.1
  · exact mst_0.2.2.2.2.1
theorem mst_Rel : Rel mst := by
  obtain ⟨s0, c0, t0, x0, x1, y0, y1, i0, i1, r0, r1⟩ := mst_0
  obtain ⟨g0, g1, g4, g5, g6, g7, gc⟩ := mst_r
  have hz : (0 : Int32).toNatClampNeg = 0 := by decide
  refine ⟨⟨fun i p hi _ => ?_, fun k hk => ?_, fun u hu => ⟨?_, fun i hi => ?_⟩⟩, ⟨g0, g1, g4, g5, g6, g7, gc, fun k hk => ?_, fun c hc => ?_, fun u hu => ⟨?_, fun i hi => ?_, fun h => ?_⟩, fun i hi => ?_⟩, ⟨by rw [i0, i1], fun h => absurd i1 h⟩, mst_e, ⟨by rw [r0, r1], by rw [r1]; unfold rg; decide, fun j hj => ?_⟩, fun i hi => ?_⟩
  · have := List.all_eq_true.mp mst_am i (List.mem_range.mpr (am_lt hi))
    rw [hi] at this
    exact of_decide_eq_true this
  · rw [s0] at hk
    omega
  · rw [mst_t hu]
    rcases (show u = 0 ∨ u = 1 by omega) with rfl | rfl
    · exact y0
    · exact y1
  · rw [mst_t hu, hz] at hi
    omega
  · rw [s0] at hk
    omega
  · rw [c0] at hc
    omega
  · show rg (mst 143 (182 + 125 * u + 0)) 0 60
    rw [Nat.add_zero, mst_t hu]
    unfold rg
    decide
  · have : txt (mst 143) u 0 = 0 := by
      show mst 143 (182 + 125 * u + 0) = 0
      rw [Nat.add_zero, mst_t hu]
    rw [this, hz] at hi
    omega
  · have : txt (mst 143) u 0 = 0 := by
      show mst 143 (182 + 125 * u + 0) = 0
      rw [Nat.add_zero, mst_t hu]
    rw [this, hz] at h
    omega
  · rw [t0] at hi
    omega
  · rw [r1, hz] at hj
    omega
  · obtain ⟨a, b, c, d, e⟩ := mst_s i hi
    exact ⟨a, b, Or.inl c, d, e⟩
theorem pure_main (sn : Nat) (xs : Nat → Int32) (h : sn ≤ 384) : ∃ μ : Mem, law_L18 sn xs FU 0 142 (0 : Int32) mst = some (1, μ) := law_loop h xs (sn / 6) 0 mst FU (by omega) (by omega) (by rw [FU_eq]; omega) mst_Rel
end
