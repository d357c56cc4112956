/-! PURE 3: who may sell -/
theorem nI_le0 {k : Nat} (h : k < 2 ^ 31) : (nI k ≤ 0) ↔ k = 0 := by
  rw [← nI_0, nI_leI h (by omega)]
  omega
theorem nI_nm1 {k : Nat} (h : k < 2 ^ 31) : ¬ nI k = -1 := by
  intro e
  have := congrArg Int32.toInt e
  rw [nI_toInt h] at this
  have h2 : (-1 : Int32).toInt = -1 := by decide
  omega
theorem nI_pred1 {k : Nat} (h : 0 < k) : nI k - 1 = nI (k - 1) := by
  have : nI k - nI 1 = nI (k - 1) := nI_sub h
  exact this
theorem locA (w k : Nat) : w + 2 + 5 + 3 * k = w + 7 + 3 * k := by omega
theorem locB (w k : Nat) : w + 7 + 3 * k + 1 = w + 8 + 3 * k := by omega
theorem locC (w k : Nat) : w + 7 + 3 * k + 2 = w + 9 + 3 * k := by omega
theorem locD (w c : Nat) : w + 3 + 22 + 1 * c = w + 25 + c := by omega
theorem locE (w u : Nat) : w + 4 + 31 + 3 * u = w + 35 + 3 * u := by omega
theorem locF (w u : Nat) : w + 35 + 3 * u + 1 = w + 36 + 3 * u := by omega
theorem locG (w u : Nat) : w + 35 + 3 * u + 2 = w + 37 + 3 * u := by omega
abbrev stk (σ : Nat → Int32) (k g : Nat) : Int32 := σ (25 + 21 * k + g)
def eO : Option Nat → Int32
  | none => -1
  | some k => nI k
def lft (σ : Nat → Int32) (k : Nat) : Option Nat := if k = 0 then (if σ 4 = 1 then some (nS σ - 1) else none) else some (k - 1)
def sO (σ : Nat → Int32) (o : Option Nat) (g : Nat) : Int32 := match o with
  | none => 0
  | some k => stk σ k g
def lkE (σ : Nat → Int32) (o : Option Nat) (g : Nat) : Bool := match o with
  | none => true
  | some k => decide (σ (31 + 21 * k + g) = 0)
def may (σ : Nat → Int32) (k g : Nat) : Bool := decide (¬ stk σ k g = 0) && (decide (sO σ (lft σ k) g = 0) && ((decide (¬ σ 5 = 1) || decide (sO σ ((lft σ k).bind (lft σ)) g = 0)) && (decide (¬ σ 5 = 2) || lkE σ (lft σ k) g)))
/-- a shop that is there, or nobody -/
def okO (σ : Nat → Int32) (o : Option Nat) : Prop := ∀ k, o = some k → k < nS σ
theorem lft_ok {σ : Nat → Int32} {k : Nat} (h : k < nS σ) : okO σ (lft σ k) := by
  intro j hj
  unfold lft at hj
  split at hj
  · split at hj
    · cases hj; omega
    · cases hj
  · cases hj; omega
theorem lft2_ok {σ : Nat → Int32} {o : Option Nat} (h : okO σ o) : okO σ (o.bind (lft σ)) := by
  intro j hj
  obtain ⟨k, h1, h2⟩ := Option.bind_eq_some_iff.mp hj
  exact lft_ok (h k h1) j h2
section MAY
variable {μ : Mem} {w : Nat} {σ : Nat → Int32}
theorem leftOf7 (h : RepW μ w σ) (hI : Inv σ) {k : Nat} (hk : k < nS σ) : f_X7_leftOf w (nI k) μ = some (eO (lft σ k), μ) := by
  have h6 := hI.n6
  unfold f_X7_leftOf X7_leftOf_J26 lft
  by_cases h0 : k = 0
  · rw [if_pos ((nI_le0 (by omega)).mpr h0), if_pos h0, rd_ring h]
    by_cases h1 : σ 4 = 1
    · rw [if_pos h1, if_pos h1, rd_n h, hI.s0, nI_pred1 (by omega)]
      rfl
    · rw [if_neg h1, if_neg h1]
      rfl
  · rw [if_neg (fun q => h0 ((nI_le0 (by omega)).mp q)), if_neg h0, nI_pred1 (by omega)]
    rfl
theorem left9 {μ : Mem} (hI : Inv (μ 143)) {o : Option Nat} (ho : okO (μ 143) o) : f_X9_left 142 (eO o) μ = some (eO (o.bind (lft (μ 143))), μ) := by
  have h6 := hI.n6
  unfold f_X9_left X9_left_J41
  cases o with
  | none => rfl
  | some k =>
    have hk := ho k rfl
    show _ = some (eO (lft (μ 143) k), μ)
    rw [show eO (some k) = nI k from rfl, if_neg (nI_nm1 (by omega))]
    unfold lft
    by_cases h0 : k = 0
    · rw [if_pos ((nI_le0 (by omega)).mpr h0), if_pos h0, show inb (4 : Int32) 516 = true from by decide, show inb (0 : Int32) 516 = true from by decide, gd_t, gd_t]
      show (if μ 143 4 = 1 then some (μ 143 0 - 1, μ) else some (-1, μ)) = _
      by_cases h1 : μ 143 4 = 1
      · rw [if_pos h1, if_pos h1, hI.s0, nI_pred1 (by omega)]
        rfl
      · rw [if_neg h1, if_neg h1]
        rfl
    · rw [if_neg (fun q => h0 ((nI_le0 (by omega)).mp q)), if_neg h0, nI_pred1 (by omega)]
      rfl
theorem stockOf7 (h : RepW μ w σ) (hI : Inv σ) {o : Option Nat} (ho : okO σ o) {g : Nat} (hg : g < 6) : f_X7_stockOf w (eO o) (nI g) μ = some (sO σ o g, μ) := by
  have h6 := hI.n6
  unfold f_X7_stockOf X7_stockOf_J19
  cases o with
  | none => rfl
  | some k =>
    have hk := ho k rfl
    show (if (0 : Int32) ≤ nI k then _ else _) = some (stk σ k g, μ)
    rw [if_pos (nI_pos' (by omega))]
    show gd (inb (nI k) 6) (gd (inb (nI g) 6) (some (μ (w + 2 + 5 + 3 * (nI k).toNatClampNeg + 2) (nI g).toNatClampNeg, μ))) = _
    rw [inb_nI (by omega) (by omega), inb_nI hg (by omega), gd_t, gd_t, clamp_nI (by omega), clamp_nI (by omega), locA, locC, rd_stock h hI hk hg]
theorem sO_nn {σ : Nat → Int32} (hI : Inv σ) {o : Option Nat} (ho : okO σ o) {g : Nat} (hg : g < 6) : rg (sO σ o g) 0 99 := by
  cases o with
  | none => show rg 0 0 99; unfold rg; decide
  | some k => exact (hI.shop k (ho k rfl)).2.2.2.2 g hg
theorem rg0 {x : Int32} {n : Int} (h : rg x 0 n) : (x ≤ 0) ↔ x = 0 := by
  rw [Int32.le_iff_toInt_le]
  constructor
  · intro q
    apply Int32.toInt_inj.mp
    have h0 : (0 : Int32).toInt = 0 := by decide
    rw [h0] at q ⊢
    have := h.1
    omega
  · intro q
    rw [q]
    exact Int.le_refl _
theorem maySell7 (h : RepW μ w σ) (hI : Inv σ) {k g : Nat} (hk : k < nS σ) (hg : g < 6) : f_X7_maySell w (nI k) (nI g) μ = some (b2 (may σ k g = true), μ) := by
  have h6 := hI.n6
  unfold f_X7_maySell X7_maySell_J29 X7_maySell_J93 X7_maySell_J88 X7_maySell_J63 X7_maySell_J93
  rw [leftOf7 h hI hk, cal_some, inb_nI (by omega) (by omega), inb_nI hg (by omega), gd_t, gd_t, clamp_nI (by omega), clamp_nI (by omega), locA, locC, rd_stock h hI hk hg]
  have e0 : isb (0 : Int32) = true := rfl
  have e1 : isb (1 : Int32) = true := rfl
  rw [e0, e1]
  simp only [gd_t]
  by_cases c1 : σ (25 + 21 * k + g) = 0
  · rw [if_pos c1, b2_f]
    unfold may stk
    simp [c1]
  · rw [if_neg c1, stockOf7 h hI (lft_ok hk) hg, cal_some]
    have hlo := lft_ok hk
    by_cases c2 : sO σ (lft σ k) g = 0
    · rw [if_pos ((rg0 (sO_nn hI hlo hg)).mpr c2)]
      cases hl : lft σ k with
      | none =>
        show (if (0 : Int32) ≤ -1 then _ else _) = _
        rw [if_neg (by decide), b2_t]
        unfold may stk
        simp [c1, hl, sO, lkE]
      | some j =>
        have hj := hlo j hl
        rw [hl] at c2
        show (if (0 : Int32) ≤ nI j then _ else _) = _
        rw [if_pos (nI_pos' (by omega)), rd_law h]
        by_cases c3 : σ 5 = 1
        · rw [if_pos c3]
          show cal (f_X7_leftOf w (nI j) μ) _ = _
          rw [leftOf7 h hI hj, cal_some, stockOf7 h hI (lft_ok hj) hg, cal_some]
          have hb : may σ k g = decide (sO σ (lft σ j) g = 0) := by
            unfold may stk
            simp [c1, hl, c2, c3, show ¬ (1 : Int32) = 2 by decide]
          rw [hb]
          by_cases c4 : sO σ (lft σ j) g = 0
          · rw [if_pos c4, b2_t (decide_eq_true c4)]
          · rw [if_neg c4, b2_f (by simpa using c4)]
        · rw [if_neg c3]
          by_cases c4 : σ 5 = 2
          · rw [if_pos c4]
            show gd (inb (nI j) 6) _ = _
            have hh := h.2.1 j hj g hg
            have hb : may σ k g = decide (σ (31 + 21 * j + g) = 0) := by
              unfold may stk
              simp [c1, hl, c2, c3, c4, lkE]
            rw [inb_nI (by omega) (by omega), gd_t]
            show (if isr (μ (w + 2 + 5 + 3 * (nI j).toNatClampNeg) 5) (nI g) &&& 1 = 0 then _ else _) = _
            rw [clamp_nI (by omega), locA, hb]
            by_cases c5 : σ (31 + 21 * j + g) = 0
            · rw [if_pos (hh.mpr c5), b2_t (decide_eq_true c5)]
            · rw [if_neg (fun q => c5 (hh.mp q)), b2_f (by simpa using c5)]
          · rw [if_neg c4, b2_t]
            unfold may stk
            simp [c1, hl, c2, c3, c4]
    · rw [if_neg (fun q => c2 ((rg0 (sO_nn hI hlo hg)).mp q)), b2_f]
      unfold may stk
      simp [c1, c2]
end MAY
/-- the model's cells -/
theorem ix9 {k j : Nat} (h : 16 + 21 * k + j < 516) : inb ((16 : Int32) + (21 : Int32) * nI k + nI j) 516 = true ∧ ((16 : Int32) + (21 : Int32) * nI k + nI j).toNatClampNeg = 16 + 21 * k + j := by
  have e : (16 : Int32) + (21 : Int32) * nI k + nI j = nI (16 + 21 * k + j) := by
    show nI 16 + nI 21 * nI k + nI j = _
    rw [nI_mul, nI_add, nI_add]
  rw [e]
  exact ⟨inb_nI h (by omega), clamp_nI (by omega)⟩
theorem its9 {μ : Mem} {k j : Nat} (h : 16 + 21 * k + j < 516) : f_X9_its 142 (nI k) (nI j) μ = some (μ 143 (16 + 21 * k + j), μ) := by
  unfold f_X9_its
  obtain ⟨h1, h2⟩ := ix9 h
  rw [h1, gd_t, h2]
theorem its9' {μ : Mem} {k j : Nat} {x : Int32} (hx : x = nI j) (h : 16 + 21 * k + j < 516) : f_X9_its 142 (nI k) x μ = some (μ 143 (16 + 21 * k + j), μ) := by
  rw [hx]; exact its9 h
theorem lays9 {μ : Mem} {k j : Nat} (h : 16 + 21 * k + j < 516) (v : Int32) : f_X9_lays1 142 (nI k) (nI j) v μ = some (0, sR μ 143 (upd (μ 143) (16 + 21 * k + j) v)) := by
  unfold f_X9_lays1
  obtain ⟨h1, h2⟩ := ix9 h
  rw [h1, gd_t, bnd_eq, h2, mset_sR]
theorem lays9' {μ : Mem} {k j : Nat} {x : Int32} (hx : x = nI j) (h : 16 + 21 * k + j < 516) (v : Int32) : f_X9_lays1 142 (nI k) x v μ = some (0, sR μ 143 (upd (μ 143) (16 + 21 * k + j) v)) := by
  rw [hx]; exact lays9 h v
theorem lacks9 {μ : Mem} (hI : Inv (μ 143)) {o : Option Nat} (ho : okO (μ 143) o) {g : Nat} (hg : g < 6) : f_X9_lacks1 142 (eO o) (nI g) 9 μ = some (b2 (sO (μ 143) o g = 0), μ) := by
  have h6 := hI.n6
  unfold f_X9_lacks1 X9_lacks1_J16 X9_lacks1_J21
  cases o with
  | none => rfl
  | some k =>
    have hk := ho k rfl
    show (if nI k = -1 then _ else cal (f_X9_its 142 (nI k) (9 + nI g) μ) _) = _
    rw [if_neg (nI_nm1 (by omega)), its9' (j := 9 + g) (by show nI 9 + nI g = _; rw [nI_add]) (by omega), cal_some]
    have e : 16 + 21 * k + (9 + g) = 25 + 21 * k + g := by omega
    rw [e]
    show (if stk (μ 143) k g = 0 then _ else _) = some (b2 (stk (μ 143) k g = 0), μ)
    by_cases c : stk (μ 143) k g = 0
    · rw [if_pos c, b2_t c]; rfl
    · rw [if_neg c, b2_f c]; rfl
theorem lacksE9 {μ : Mem} (hI : Inv (μ 143)) {o : Option Nat} (ho : okO (μ 143) o) {g : Nat} (hg : g < 6) : f_X9_lacks1 142 (eO o) (nI g) 15 μ = some (b2 (lkE (μ 143) o g = true), μ) := by
  have h6 := hI.n6
  unfold f_X9_lacks1 X9_lacks1_J16 X9_lacks1_J21
  cases o with
  | none => rfl
  | some k =>
    have hk := ho k rfl
    show (if nI k = -1 then _ else cal (f_X9_its 142 (nI k) (15 + nI g) μ) _) = _
    rw [if_neg (nI_nm1 (by omega)), its9' (j := 15 + g) (by show nI 15 + nI g = _; rw [nI_add]) (by omega), cal_some]
    have e : 16 + 21 * k + (15 + g) = 31 + 21 * k + g := by omega
    rw [e]
    unfold lkE
    by_cases c : μ 143 (31 + 21 * k + g) = 0
    · rw [if_pos c, b2_t (decide_eq_true c)]; rfl
    · rw [if_neg c, b2_f (by simpa using c)]; rfl
theorem may9 {μ : Mem} (hI : Inv (μ 143)) {k g : Nat} (hk : k < nS (μ 143)) (hg : g < 6) : f_X9_may 142 (nI k) (nI g) μ = some (b2 (may (μ 143) k g = true), μ) := by
  have h6 := hI.n6
  have hlo := lft_ok hk
  have hl2 := lft2_ok hlo
  unfold f_X9_may
  rw [show nI k = eO (some k) from rfl, left9 hI (o := some k) (fun j hj => by cases hj; exact hk), cal_some]
  show cal (f_X9_its 142 (nI k) (9 + nI g) μ) _ = _
  rw [its9' (j := 9 + g) (by show nI 9 + nI g = _; rw [nI_add]) (by omega), cal_some]
  have e : 16 + 21 * k + (9 + g) = 25 + 21 * k + g := by omega
  rw [e]
  show (if stk (μ 143) k g ≤ 0 then X9_may_J33 142 (nI g) (eO (lft (μ 143) k)) μ else cal (f_X9_lacks1 142 (eO (lft (μ 143) k)) (nI g) 9 μ) _) = _
  rw [lacks9 hI hlo hg, cal_some]
  have hj73 : ∀ b : Bool, X9_may_J73 142 (nI g) (eO (lft (μ 143) k)) (b2 (b = true)) μ = some (b2 ((b && (decide (¬ μ 143 5 = 2) || lkE (μ 143) (lft (μ 143) k) g)) = true), μ) := by
    intro b
    unfold X9_may_J73 X9_may_J103 X9_may_J104 X9_may_J106
    rw [show inb (5 : Int32) 516 = true from by decide, gd_t]
    show (if μ 143 5 = 2 then _ else _) = _
    by_cases c1 : μ 143 5 = 2
    · rw [if_pos c1]
      cases b with
      | false => rfl
      | true =>
        show (if (1 : Int32) = 0 then _ else _) = _
        rw [if_neg (by decide), lacksE9 hI hlo hg, cal_some]
        by_cases c2 : lkE (μ 143) (lft (μ 143) k) g = true
        · rw [b2_t c2, if_neg (by decide), b2_t (by simp [c2])]; rfl
        · rw [b2_f c2, if_pos rfl, b2_f (by simp [c1, c2])]; rfl
    · rw [if_neg c1, b2_isb, gd_t]
      cases b <;> simp [c1]
  have hj34 : ∀ b : Bool, X9_may_J34 142 (nI g) (eO (lft (μ 143) k)) (b2 (b = true)) μ = some (b2 ((b && ((decide (¬ μ 143 5 = 1) || decide (sO (μ 143) ((lft (μ 143) k).bind (lft (μ 143))) g = 0)) && (decide (¬ μ 143 5 = 2) || lkE (μ 143) (lft (μ 143) k) g))) = true), μ) := by
    intro b
    unfold X9_may_J34 X9_may_J70 X9_may_J71
    rw [show inb (5 : Int32) 516 = true from by decide, gd_t]
    show (if μ 143 5 = 1 then _ else _) = _
    by_cases c1 : μ 143 5 = 1
    · rw [if_pos c1]
      cases b with
      | false =>
        show X9_may_J73 142 (nI g) (eO (lft (μ 143) k)) (b2 (false = true)) μ = _
        rw [hj73 false]; rfl
      | true =>
        show (if (1 : Int32) = 0 then _ else _) = _
        rw [if_neg (by decide), left9 hI hlo, cal_some, lacks9 hI hl2 hg, cal_some]
        by_cases c2 : sO (μ 143) ((lft (μ 143) k).bind (lft (μ 143))) g = 0
        · rw [b2_t c2, if_neg (by decide)]
          show X9_may_J73 142 (nI g) (eO (lft (μ 143) k)) (b2 (true = true)) μ = _
          rw [hj73 true]
          simp [c2]
        · rw [b2_f c2, if_pos rfl]
          show X9_may_J73 142 (nI g) (eO (lft (μ 143) k)) (b2 (false = true)) μ = _
          rw [hj73 false]
          simp [c1, c2]
    · rw [if_neg c1, hj73 b]
      simp [c1]
  have hs : rg (stk (μ 143) k g) 0 99 := (hI.shop k hk).2.2.2.2 g hg
  have h33 : X9_may_J33 142 (nI g) (eO (lft (μ 143) k)) μ = some (b2 (false = true), μ) := by
    unfold X9_may_J33
    show X9_may_J34 142 (nI g) (eO (lft (μ 143) k)) (b2 (false = true)) μ = _
    rw [hj34 false]; rfl
  by_cases c1 : stk (μ 143) k g = 0
  · rw [if_pos ((rg0 hs).mpr c1), h33]
    unfold may
    simp [c1]
  · rw [if_neg (fun q => c1 ((rg0 hs).mp q))]
    by_cases c2 : sO (μ 143) (lft (μ 143) k) g = 0
    · rw [b2_t c2, if_neg (by decide)]
      show X9_may_J34 142 (nI g) (eO (lft (μ 143) k)) (b2 (true = true)) μ = _
      rw [hj34 true]
      unfold may
      simp [c1, c2]
    · rw [b2_f c2, if_pos rfl]
      show X9_may_J33 142 (nI g) (eO (lft (μ 143) k)) μ = _
      rw [h33]
      unfold may
      simp [c1, c2]
