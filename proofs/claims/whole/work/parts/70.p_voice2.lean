/-! PURE 35: voices of the model -/
section
section MSAY
variable {σ : Nat → Int32} {s : Nat}
def MSay (σ : Nat → Int32) (s : Nat) (F : Nat → Nat → Int32 → Int32 → Mem → Res) (R f : Nat) (x r : Int32) (T : List Int32) : Prop := ∀ (m0 μ : Mem) (L : List Int32) (n : Nat), R < n → L.length + T.length ≤ 30 → MS m0 μ σ s L 0 → ∃ μ', F n 142 (nI f) x μ = some (r, μ') ∧ MS m0 μ' σ s (L ++ T) 0
theorem MSay.up {F : Nat → Nat → Int32 → Int32 → Mem → Res} {R R' f : Nat} {x r : Int32} {T : List Int32} (h : MSay σ s F R f x r T) (hR : R ≤ R') : MSay σ s F R' f x r T := fun m0 μ L n h1 h2 h3 => h m0 μ L n (by omega) h2 h3
/-- a kind without a body of its own -/
theorem MSay.pass {F : Nat → Nat → Int32 → Int32 → Mem → Res} {R f g : Nat} {x r : Int32} {T : List Int32} (h : MSay σ s F R g x r T) (hF : ∀ n (μ : Mem), F (n + 1) 142 (nI f) x μ = cal (f_X9_above (nI f) μ) (fun r1 m2 => cal (F n 142 r1 x m2) (fun r3 m4 => some (r3, m4)))) (ha : ∀ μ : Mem, f_X9_above (nI f) μ = some (nI g, μ)) : MSay σ s F (R + 1) f x r T := by
  intro m0 μ L n h1 h2 h3
  obtain ⟨n, rfl⟩ : ∃ q, n = q + 1 := ⟨n - 1, by omega⟩
  obtain ⟨μ', e, c⟩ := h m0 μ L n (by omega) h2 h3
  refine ⟨μ', ?_, c⟩
  rw [hF, ha, cal_some, e, cal_some]
theorem kind9 {m0 μ : Mem} {L : List Int32} {p : Int32} (hs : s < 6) (h : MS m0 μ σ s L p) : f_X9_kindNow 142 μ = some (σ (16 + 21 * s), μ) := by
  unfold f_X9_kindNow
  rw [h.2.1, its9_0 hs, cal_some, h.2.2.2.1]
theorem m9 {m0 μ : Mem} {L : List Int32} {p : Int32} (hs : s < 6) (h : MS m0 μ σ s L p) : f_X9_mNow 142 μ = some (σ (17 + 21 * s), μ) := by
  unfold f_X9_mNow
  rw [h.2.1, its9_1 hs, cal_some, h.2.2.2.1]
theorem d_s0 (x : Int32) : MSay σ s f_X9_sellsBy 0 0 x (x + nI s) [10] := by
  intro m0 μ L n h1 h2 h3
  simp only [List.length_cons, List.length_nil] at h2
  obtain ⟨n, rfl⟩ : ∃ q, n = q + 1 := ⟨n - 1, by omega⟩
  obtain ⟨μ1, e1, c1⟩ := begins9 h3 (by omega) 10
  refine ⟨μ1, ?_, c1⟩
  show cal (f_X9_begins 142 10 μ) (fun r1 m2 => some (x + m2 142 14, m2)) = _
  rw [e1, cal_some, c1.2.1]
theorem d_s1 (x : Int32) : MSay σ s f_X9_sellsBy 1 1 x (x + nI s - 4) [20, 10] := by
  intro m0 μ L n h1 h2 h3
  simp only [List.length_cons, List.length_nil] at h2
  obtain ⟨n, rfl⟩ : ∃ q, n = q + 1 := ⟨n - 1, by omega⟩
  obtain ⟨μ1, e1, c1⟩ := begins9 h3 (by omega) 20
  obtain ⟨μ2, e2, c2⟩ := d_s0 x m0 μ1 (L ++ [20]) n (by omega) (by rw [len_1]; simp; omega) c1
  refine ⟨μ2, ?_, ?_⟩
  · show cal (f_X9_begins 142 20 μ) (fun r4 m5 => cal (f_X9_above 1 m5) (fun r6 m7 => cal (f_X9_sellsBy n 142 r6 x m7) (fun r8 m9 => some (r8 - 4, m9)))) = _
    rw [e1, cal_some]
    show cal (f_X9_sellsBy n 142 (nI 0) x μ1) (fun r8 m9 => some (r8 - 4, m9)) = _
    rw [e2, cal_some]
  · rw [List.append_assoc] at c2
    exact c2
theorem d_sell {f : Nat} (hf : f ≤ 6) (x : Int32) : MSay σ s f_X9_sellsBy 2 f x (sV (nI s) f x) (sT f) := by
  rcases (show f = 0 ∨ f = 1 ∨ f = 2 ∨ f = 3 ∨ f = 4 ∨ f = 5 ∨ f = 6 by omega) with rfl | rfl | rfl | rfl | rfl | rfl | rfl
  · exact (d_s0 x).up (by omega)
  · exact (d_s1 x).up (by omega)
  · exact ((d_s0 x).pass (f := 2) (fun _ _ => rfl) (fun _ => rfl)).up (by omega)
  · exact ((d_s0 x).pass (f := 3) (fun _ _ => rfl) (fun _ => rfl)).up (by omega)
  · show MSay σ s f_X9_sellsBy 2 4 x ((x + nI s - 4) * 3) [50, 20, 10]
    intro m0 μ L n h1 h2 h3
    simp only [List.length_cons, List.length_nil] at h2
    obtain ⟨n, rfl⟩ : ∃ q, n = q + 1 := ⟨n - 1, by omega⟩
    obtain ⟨μ1, e1, c1⟩ := begins9 h3 (by omega) 50
    obtain ⟨μ2, e2, c2⟩ := d_s1 x m0 μ1 (L ++ [50]) n (by omega) (by rw [len_1]; simp; omega) c1
    refine ⟨μ2, ?_, ?_⟩
    · show cal (f_X9_begins 142 50 μ) (fun r4 m5 => cal (f_X9_above 4 m5) (fun r6 m7 => cal (f_X9_sellsBy n 142 r6 x m7) (fun r8 m9 => some (r8 * 3, m9)))) = _
      rw [e1, cal_some]
      show cal (f_X9_sellsBy n 142 (nI 1) x μ1) (fun r8 m9 => some (r8 * 3, m9)) = _
      rw [e2, cal_some]
    · rw [List.append_assoc] at c2
      exact c2
  · exact ((d_s0 x).pass (f := 2) (fun _ _ => rfl) (fun _ => rfl)).pass (f := 5) (fun _ _ => rfl) (fun _ => rfl)
  · show MSay σ s f_X9_sellsBy 2 6 x 2 [70]
    intro m0 μ L n h1 h2 h3
    simp only [List.length_cons, List.length_nil] at h2
    obtain ⟨n, rfl⟩ : ∃ q, n = q + 1 := ⟨n - 1, by omega⟩
    obtain ⟨μ1, e1, c1⟩ := begins9 h3 (by omega) 70
    refine ⟨μ1, ?_, c1⟩
    show cal (f_X9_begins 142 70 μ) (fun r21 m22 => some (2, m22)) = _
    rw [e1, cal_some]
theorem d_f0 {q : Nat} (hq : q ≤ 6) (hs : s < 6) (hk : σ (16 + 21 * s) = nI q) (x : Int32) : MSay σ s f_X9_fillsBy 0 0 x (sV (nI s) q x * 2) (11 :: sT q) := by
  intro m0 μ L n h1 h2 h3
  rw [List.length_cons] at h2
  obtain ⟨n, rfl⟩ : ∃ q, n = q + 1 := ⟨n - 1, by omega⟩
  obtain ⟨μ1, e1, c1⟩ := begins9 h3 (by omega) 11
  obtain ⟨μ2, e2, c2⟩ := d_sell hq x m0 μ1 (L ++ [11]) RF (by decide) (by rw [len_1]; omega) c1
  refine ⟨μ2, ?_, ?_⟩
  · show cal (f_X9_begins 142 11 μ) (fun r1 m2 => cal (f_X9_kindNow 142 m2) (fun r3 m4 => cal (f_X9_sellsBy RF 142 r3 x m4) (fun r5 m6 => some (r5 * 2, m6)))) = _
    rw [e1, cal_some, kind9 hs c1, cal_some, hk, e2, cal_some]
  · rw [List.append_assoc] at c2
    exact c2
theorem d_f2 {q : Nat} (hq : q ≤ 6) (hs : s < 6) (hk : σ (16 + 21 * s) = nI q) (x : Int32) : MSay σ s f_X9_fillsBy 1 2 x (0 - sV (nI s) q x * 2) (30 :: 11 :: sT q) := by
  intro m0 μ L n h1 h2 h3
  rw [List.length_cons, List.length_cons] at h2
  obtain ⟨n, rfl⟩ : ∃ q, n = q + 1 := ⟨n - 1, by omega⟩
  obtain ⟨μ1, e1, c1⟩ := begins9 h3 (by omega) 30
  obtain ⟨μ2, e2, c2⟩ := d_f0 hq hs hk x m0 μ1 (L ++ [30]) n (by omega) (by rw [len_1, List.length_cons]; omega) c1
  refine ⟨μ2, ?_, ?_⟩
  · show cal (f_X9_begins 142 30 μ) (fun r4 m5 => cal (f_X9_above 2 m5) (fun r6 m7 => cal (f_X9_fillsBy n 142 r6 x m7) (fun r8 m9 => some (0 - r8, m9)))) = _
    rw [e1, cal_some]
    show cal (f_X9_fillsBy n 142 (nI 0) x μ1) (fun r8 m9 => some (0 - r8, m9)) = _
    rw [e2, cal_some]
  · rw [List.append_assoc] at c2
    exact c2
theorem d_fill {q f : Nat} (hq : q ≤ 6) (hf : f ≤ 6) (hs : s < 6) (hk : σ (16 + 21 * s) = nI q) (x : Int32) : MSay σ s f_X9_fillsBy 2 f x (fV (nI s) (σ (17 + 21 * s)) q f x) (fT q f) := by
  rcases (show f = 0 ∨ f = 1 ∨ f = 2 ∨ f = 3 ∨ f = 4 ∨ f = 5 ∨ f = 6 by omega) with rfl | rfl | rfl | rfl | rfl | rfl | rfl
  · exact (d_f0 hq hs hk x).up (by omega)
  · exact ((d_f0 hq hs hk x).pass (f := 1) (fun _ _ => rfl) (fun _ => rfl)).up (by omega)
  · exact (d_f2 hq hs hk x).up (by omega)
  · exact ((d_f0 hq hs hk x).pass (f := 3) (fun _ _ => rfl) (fun _ => rfl)).up (by omega)
  · exact ((d_f0 hq hs hk x).pass (f := 1) (fun _ _ => rfl) (fun _ => rfl)).pass (f := 4) (fun _ _ => rfl) (fun _ => rfl)
  · show MSay σ s f_X9_fillsBy 2 5 x (0 - sV (nI s) q (x + 1) * 2) (60 :: 30 :: 11 :: sT q)
    intro m0 μ L n h1 h2 h3
    rw [List.length_cons, List.length_cons, List.length_cons] at h2
    obtain ⟨n, rfl⟩ : ∃ q, n = q + 1 := ⟨n - 1, by omega⟩
    obtain ⟨μ1, e1, c1⟩ := begins9 h3 (by omega) 60
    obtain ⟨μ2, e2, c2⟩ := d_f2 hq hs hk (x + 1) m0 μ1 (L ++ [60]) n (by omega) (by rw [len_1, List.length_cons, List.length_cons]; omega) c1
    refine ⟨μ2, ?_, ?_⟩
    · show cal (f_X9_begins 142 60 μ) (fun r4 m5 => cal (f_X9_above 5 m5) (fun r6 m7 => cal (f_X9_fillsBy n 142 r6 (x + 1) m7) (fun r8 m9 => some (r8, m9)))) = _
      rw [e1, cal_some]
      show cal (f_X9_fillsBy n 142 (nI 2) (x + 1) μ1) (fun r8 m9 => some (r8, m9)) = _
      rw [e2, cal_some]
    · rw [List.append_assoc] at c2
      exact c2
  · show MSay σ s f_X9_fillsBy 2 6 x (sV (nI s) q x * 2 + σ (17 + 21 * s)) (71 :: 11 :: sT q)
    intro m0 μ L n h1 h2 h3
    rw [List.length_cons, List.length_cons] at h2
    obtain ⟨n, rfl⟩ : ∃ q, n = q + 1 := ⟨n - 1, by omega⟩
    obtain ⟨μ1, e1, c1⟩ := begins9 h3 (by omega) 71
    obtain ⟨μ2, e2, c2⟩ := d_f0 hq hs hk x m0 μ1 (L ++ [71]) n (by omega) (by rw [len_1, List.length_cons]; omega) c1
    refine ⟨μ2, ?_, ?_⟩
    · show cal (f_X9_begins 142 71 μ) (fun r4 m5 => cal (f_X9_above 6 m5) (fun r6 m7 => cal (f_X9_fillsBy n 142 r6 x m7) (fun r29 m30 => cal (f_X9_mNow 142 m30) (fun r31 m32 => some (r29 + r31, m32))))) = _
      rw [e1, cal_some]
      show cal (f_X9_fillsBy n 142 (nI 0) x μ1) (fun r29 m30 => cal (f_X9_mNow 142 m30) (fun r31 m32 => some (r29 + r31, m32))) = _
      rw [e2, cal_some, m9 hs c2, cal_some]
    · rw [List.append_assoc] at c2
      exact c2
theorem d_o0 {q : Nat} (hq : q ≤ 6) (hs : s < 6) (hk : σ (16 + 21 * s) = nI q) (x : Int32) : MSay σ s f_X9_owesBy 0 0 x (fV (nI s) (σ (17 + 21 * s)) q q x - σ (17 + 21 * s)) (12 :: fT q q) := by
  intro m0 μ L n h1 h2 h3
  rw [List.length_cons] at h2
  obtain ⟨n, rfl⟩ : ∃ q, n = q + 1 := ⟨n - 1, by omega⟩
  obtain ⟨μ1, e1, c1⟩ := begins9 h3 (by omega) 12
  obtain ⟨μ2, e2, c2⟩ := d_fill hq hq hs hk x m0 μ1 (L ++ [12]) RF (by decide) (by rw [len_1]; omega) c1
  refine ⟨μ2, ?_, ?_⟩
  · show cal (f_X9_begins 142 12 μ) (fun r1 m2 => cal (f_X9_kindNow 142 m2) (fun r3 m4 => cal (f_X9_fillsBy RF 142 r3 x m4) (fun r5 m6 => cal (f_X9_mNow 142 m6) (fun r7 m8 => some (r5 - r7, m8))))) = _
    rw [e1, cal_some, kind9 hs c1, cal_some, hk, e2, cal_some, m9 hs c2, cal_some]
  · rw [List.append_assoc] at c2
    exact c2
theorem d_owe {q f : Nat} (hq : q ≤ 6) (hf : f ≤ 6) (hs : s < 6) (hk : σ (16 + 21 * s) = nI q) (x : Int32) : MSay σ s f_X9_owesBy 2 f x (oV (nI s) (σ (17 + 21 * s)) q f x) (oT q f) := by
  rcases (show f = 0 ∨ f = 1 ∨ f = 2 ∨ f = 3 ∨ f = 4 ∨ f = 5 ∨ f = 6 by omega) with rfl | rfl | rfl | rfl | rfl | rfl | rfl
  · exact (d_o0 hq hs hk x).up (by omega)
  · exact ((d_o0 hq hs hk x).pass (f := 1) (fun _ _ => rfl) (fun _ => rfl)).up (by omega)
  · exact ((d_o0 hq hs hk x).pass (f := 2) (fun _ _ => rfl) (fun _ => rfl)).up (by omega)
  · show MSay σ s f_X9_owesBy 2 3 x (fV (nI s) (σ (17 + 21 * s)) q q (x / 2) - σ (17 + 21 * s)) (40 :: 12 :: fT q q)
    intro m0 μ L n h1 h2 h3
    rw [List.length_cons, List.length_cons] at h2
    obtain ⟨n, rfl⟩ : ∃ q, n = q + 1 := ⟨n - 1, by omega⟩
    obtain ⟨μ1, e1, c1⟩ := begins9 h3 (by omega) 40
    obtain ⟨μ2, e2, c2⟩ := d_o0 hq hs hk (x / 2) m0 μ1 (L ++ [40]) n (by omega) (by rw [len_1, List.length_cons]; omega) c1
    refine ⟨μ2, ?_, ?_⟩
    · show cal (f_X9_begins 142 40 μ) (fun r4 m5 => cal (f_X9_above 3 m5) (fun r6 m7 => gd (!((2 : Int32) == 0)) (cal (f_X9_owesBy n 142 r6 (x / 2) m7) (fun r8 m9 => some (r8, m9))))) = _
      rw [e1, cal_some]
      show cal (f_X9_owesBy n 142 (nI 0) (x / 2) μ1) (fun r8 m9 => some (r8, m9)) = _
      rw [e2, cal_some]
    · rw [List.append_assoc] at c2
      exact c2
  · show MSay σ s f_X9_owesBy 2 4 x ((fV (nI s) (σ (17 + 21 * s)) q q x - σ (17 + 21 * s)) ^^^ nI s) (51 :: 12 :: fT q q)
    intro m0 μ L n h1 h2 h3
    rw [List.length_cons, List.length_cons] at h2
    obtain ⟨n, rfl⟩ : ∃ q, n = q + 1 := ⟨n - 1, by omega⟩
    obtain ⟨μ1, e1, c1⟩ := begins9 h3 (by omega) 51
    obtain ⟨μ2, e2, c2⟩ := (d_o0 hq hs hk x).pass (f := 1) (fun _ _ => rfl) (fun _ => rfl) m0 μ1 (L ++ [51]) n (by omega) (by rw [len_1, List.length_cons]; omega) c1
    refine ⟨μ2, ?_, ?_⟩
    · show cal (f_X9_begins 142 51 μ) (fun r4 m5 => cal (f_X9_above 4 m5) (fun r6 m7 => cal (f_X9_owesBy n 142 r6 x m7) (fun r23 m24 => some (r23 ^^^ m24 142 14, m24)))) = _
      rw [e1, cal_some]
      show cal (f_X9_owesBy n 142 (nI 1) x μ1) (fun r23 m24 => some (r23 ^^^ m24 142 14, m24)) = _
      rw [e2, cal_some, c2.2.1]
    · rw [List.append_assoc] at c2
      exact c2
  · exact ((d_o0 hq hs hk x).pass (f := 2) (fun _ _ => rfl) (fun _ => rfl)).pass (f := 5) (fun _ _ => rfl) (fun _ => rfl)
  · exact ((d_o0 hq hs hk x).pass (f := 6) (fun _ _ => rfl) (fun _ => rfl)).up (by omega)
theorem set15 {m0 μ : Mem} {L : List Int32} {p : Int32} (h : MS m0 μ σ s L p) (v : Int32) : MS m0 (mset μ 142 15 v) σ s L v := by
  obtain ⟨h1, h2, h3, h4, h5, h6, h7⟩ := h
  exact ⟨by rw [mset_ne (by omega)]; exact h1, by rw [mset_ne (by omega)]; exact h2, mset_self, by rw [mset_row (by omega)]; exact h4, fun j hj => by rw [mset_row (by omega)]; exact h5 j hj, fun l a b => by rw [mset_row a]; exact h6 l a b, fun f a b c => by rw [mset_ne (by omega)]; exact h7 f a b c⟩
theorem d_p0 (hs : s < 6) (x : Int32) {m0 μ : Mem} {L : List Int32} {n : Nat} (h1 : 0 < n) (h2 : L.length < 30) (h3 : MS m0 μ σ s L 0) : ∃ μ', f_X9_partsBy n 142 (nI 0) x μ = some (if σ (17 + 21 * s) - nI s = 0 then 0 else x / (σ (17 + 21 * s) - nI s), μ') ∧ MS m0 μ' σ s (L ++ [13]) (pZ (σ (17 + 21 * s)) (nI s)) := by
  obtain ⟨n, rfl⟩ : ∃ q, n = q + 1 := ⟨n - 1, by omega⟩
  obtain ⟨μ1, e1, c1⟩ := begins9 h3 h2 13
  refine ⟨mset μ1 142 15 (pZ (σ (17 + 21 * s)) (nI s)), ?_, set15 c1 _⟩
  show cal (f_X9_begins 142 13 μ) (fun r1 m2 => cal (f_X9_mNow 142 m2) (fun r3 m4 => bnd (r3 - m4 142 14) (fun y5 => (if y5 = 0 then X9_partsBy_J54 (f_X9_partsBy n) x y5 142 1 m4 else X9_partsBy_J54 (f_X9_partsBy n) x y5 142 0 m4)))) = _
  rw [e1, cal_some, m9 hs c1, cal_some, bnd_eq, c1.2.1]
  unfold X9_partsBy_J54 X9_partsBy_J78 pZ
  generalize σ (17 + 21 * s) - nI s = y
  rw [show isb (0 : Int32) = true from rfl, show isb (1 : Int32) = true from rfl, gd_t, gd_t, bnd_eq, bnd_eq]
  by_cases c : y = 0
  · rw [if_pos c, if_pos c, if_pos c, if_pos c]
  · rw [if_neg c, if_neg c, if_neg c, if_neg c]
    by_cases e : y = -1
    · rw [if_pos e, e, div_m1]
    · rw [if_neg e, gd_nz c]
theorem d_p1 {q : Nat} (hq : q ≤ 6) (hs : s < 6) (hk : σ (16 + 21 * s) = nI q) (x : Int32) {m0 μ : Mem} {n : Nat} (h1 : 1 < n) (h3 : MS m0 μ σ s [] 0) : ∃ μ', f_X9_partsBy n 142 (nI 1) x μ = some (if σ (17 + 21 * s) - nI s = 0 then 0 else x / (σ (17 + 21 * s) - nI s) + fV (nI s) (σ (17 + 21 * s)) q q 1, μ') ∧ MS m0 μ' σ s (if σ (17 + 21 * s) - nI s = 0 then [21, 13] else 21 :: 13 :: fT q q) (pZ (σ (17 + 21 * s)) (nI s)) := by
  have hs6 := fT_len q hq q hq
  obtain ⟨n, rfl⟩ : ∃ q, n = q + 1 := ⟨n - 1, by omega⟩
  obtain ⟨μ1, e1, c1⟩ := begins9 h3 (by simp) 21
  obtain ⟨μ2, e2, c2⟩ := d_p0 hs x (n := n) (by omega) (by simp) c1
  have hh : f_X9_partsBy (n + 1) 142 (nI 1) x μ = cal (f_X9_begins 142 21 μ) (fun r7 m8 => cal (f_X9_above 1 m8) (fun r9 m10 => cal (f_X9_partsBy n 142 r9 x m10) (fun r11 m12 => (if m12 142 15 = 0 then cal (f_X9_kindNow 142 m12) (fun r13 m14 => cal (f_X9_fillsBy RF 142 r13 1 m14) (fun r15 m16 => X9_partsBy_J119 (f_X9_partsBy n) (r11 + r15) m16)) else X9_partsBy_J119 (f_X9_partsBy n) 0 m12)))) := rfl
  have ha : f_X9_above 1 μ1 = some (nI 0, μ1) := rfl
  rw [hh, e1, cal_some, ha, cal_some, e2, cal_some, c2.2.2.1]
  unfold X9_partsBy_J119
  by_cases c : σ (17 + 21 * s) - nI s = 0
  · refine ⟨μ2, ?_, ?_⟩
    · unfold pZ
      rw [if_pos c, if_pos c, if_neg (by decide), if_pos c]
    · rw [if_pos c]
      exact c2
  · have hz : pZ (σ (17 + 21 * s)) (nI s) = 0 := if_neg c
    rw [hz] at c2 ⊢
    obtain ⟨μ3, e3, c3⟩ := d_fill hq hq hs hk 1 m0 μ2 _ RF (by decide) (by simp; omega) c2
    refine ⟨μ3, ?_, ?_⟩
    · rw [if_pos rfl, kind9 hs c2, cal_some, hk, e3, cal_some, if_neg c, if_neg c]
    · rw [if_neg c]
      exact c3
theorem d_part {q : Nat} (hq : q ≤ 6) (hs : s < 6) (hk : σ (16 + 21 * s) = nI q) (x : Int32) {m0 μ : Mem} (h3 : MS m0 μ σ s [] 0) : ∃ μ', f_X9_partsBy RF 142 (nI q) x μ = some (pV (nI s) (σ (17 + 21 * s)) q q x, μ') ∧ MS m0 μ' σ s (pT (nI s) (σ (17 + 21 * s)) q q) (pZ (σ (17 + 21 * s)) (nI s)) := by
  have hp : ∀ (n f g : Nat) (μ : Mem), (f_X9_partsBy (n + 1) 142 (nI f) x μ = cal (f_X9_above (nI f) μ) (fun r18 m19 => cal (f_X9_partsBy n 142 r18 x m19) (fun r20 m21 => some (r20, m21)))) → f_X9_above (nI f) μ = some (nI g, μ) → f_X9_partsBy (n + 1) 142 (nI f) x μ = f_X9_partsBy n 142 (nI g) x μ := by
    intro n f g μ h1 h2
    rw [h1, h2, cal_some]
    exact cal_e _
  have p0 : ∀ {n : Nat}, 0 < n → ∃ μ', f_X9_partsBy n 142 (nI 0) x μ = some (if σ (17 + 21 * s) - nI s = 0 then 0 else x / (σ (17 + 21 * s) - nI s), μ') ∧ MS m0 μ' σ s [13] (pZ (σ (17 + 21 * s)) (nI s)) := fun hn => d_p0 hs x hn (by simp) h3
  rcases (show q = 0 ∨ q = 1 ∨ q = 2 ∨ q = 3 ∨ q = 4 ∨ q = 5 ∨ q = 6 by omega) with rfl | rfl | rfl | rfl | rfl | rfl | rfl
  · exact p0 (by decide)
  · exact d_p1 (by omega) hs hk x (by decide) h3
  · have : f_X9_partsBy RF 142 (nI 2) x μ = f_X9_partsBy 23 142 (nI 0) x μ := hp 23 2 0 μ rfl rfl
    rw [this]
    exact p0 (by decide)
  · have : f_X9_partsBy RF 142 (nI 3) x μ = f_X9_partsBy 23 142 (nI 0) x μ := hp 23 3 0 μ rfl rfl
    rw [this]
    exact p0 (by decide)
  · have : f_X9_partsBy RF 142 (nI 4) x μ = f_X9_partsBy 23 142 (nI 1) x μ := hp 23 4 1 μ rfl rfl
    rw [this]
    exact d_p1 (by omega) hs hk x (by decide) h3
  · have : f_X9_partsBy RF 142 (nI 5) x μ = f_X9_partsBy 23 142 (nI 2) x μ := hp 23 5 2 μ rfl rfl
    rw [this]
    have : f_X9_partsBy 23 142 (nI 2) x μ = f_X9_partsBy 22 142 (nI 0) x μ := hp 22 2 0 μ rfl rfl
    rw [this]
    exact p0 (by decide)
  · have : f_X9_partsBy RF 142 (nI 6) x μ = f_X9_partsBy 23 142 (nI 0) x μ := hp 23 6 0 μ rfl rfl
    rw [this]
    exact p0 (by decide)
end MSAY
theorem c_part {m k : Int32} {q : Nat} (hq : q ≤ 6) (x : Int32) {μ0 μ : Mem} (h4 : CS μ0 μ (nI q) m k [] 0) : ∃ μ', f_X6_say RF 128 (nI q) (nI 3) x (nI 0) μ = some (pV k m q q x, μ') ∧ CS μ0 μ' (nI q) m k (pT k m q q) (pZ m k) := by
  rcases (show q = 0 ∨ q = 1 ∨ q = 2 ∨ q = 3 ∨ q = 4 ∨ q = 5 ∨ q = 6 by omega) with rfl | rfl | rfl | rfl | rfl | rfl | rfl
  · exact c_p0 hq rfl x (by decide) (by omega) (by simp) h4
  · exact c_p1 hq hq rfl rfl x h4
  · exact c_p0 hq rfl x (by decide) (by omega) (by simp) h4
  · exact c_p0 hq rfl x (by decide) (by omega) (by simp) h4
  · exact c_p1 hq hq rfl rfl x h4
  · exact c_p0 hq rfl x (by decide) (by omega) (by simp) h4
  · exact c_p0 hq rfl x (by decide) (by omega) (by simp) h4
end
