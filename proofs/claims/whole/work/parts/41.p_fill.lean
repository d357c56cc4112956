/-! PURE 6: what a shop is filled to, what it asks -/
def ScM (μ μ' : Mem) : Prop := ∀ l, l ≠ 148 → l ≠ 149 → μ' l = μ l
theorem ScM.rf (μ : Mem) : ScM μ μ := fun _ _ _ => rfl
theorem ScM.tr {a b c : Mem} (h1 : ScM a b) (h2 : ScM b c) : ScM a c := fun l x y => (h2 l x y).trans (h1 l x y)
theorem sR_Sc148 (μ : Mem) (f : Nat → Int32) : ScM μ (sR μ 148 f) := fun l h _ => sR_ne h
theorem sR_Sc149 (μ : Mem) (f : Nat → Int32) : ScM μ (sR μ 149 f) := fun l _ h => sR_ne h
def lac (σ : Nat → Int32) (k g : Nat) : Int32 := if sO σ (lft σ k) g = 0 then σ (19 + 21 * k + g) else 0
def fil (σ : Nat → Int32) (k g : Nat) : Int32 :=
  if σ (16 + 21 * k) = 1 then lac σ k g
  else if σ (16 + 21 * k) = 2 then σ (19 + 21 * k + g) / 2
  else if σ (16 + 21 * k) = 3 then imin 1 (σ (19 + 21 * k + g))
  else if σ (16 + 21 * k) = 4 then (if lac σ k g = 0 then 0 else lac σ k g + σ (17 + 21 * k))
  else if σ (16 + 21 * k) = 5 then σ (19 + 21 * k + g) / 2
  else if σ (16 + 21 * k) = 6 then (if σ 182 = 0 then σ (19 + 21 * k + g) else hld (valT (nI 0) (σ (19 + 21 * k + g)) (sO σ (lft σ k) g) (nI g) (σ (17 + 21 * k)) (txt σ 0)) 0 99)
  else σ (19 + 21 * k + g)
def prc (σ : Nat → Int32) (k g : Nat) : Int32 :=
  if σ (16 + 21 * k) = 2 then 2 * σ (10 + g) + σ (17 + 21 * k)
  else if σ (16 + 21 * k) = 3 then 3 * σ (10 + g)
  else if σ (16 + 21 * k) = 4 then 3 * σ (10 + g)
  else if σ (16 + 21 * k) = 5 then 2 * σ (10 + g) + σ (17 + 21 * k)
  else if σ (16 + 21 * k) = 6 then (if σ 307 = 0 then 2 * σ (10 + g) else hld (valT (nI 1) (σ (10 + g)) (σ (25 + 21 * k + g)) (σ 2) (σ (17 + 21 * k)) (txt σ 1)) 0 999)
  else 2 * σ (10 + g)
section FILL
variable {μ : Mem} {w : Nat} {σ : Nat → Int32}
theorem Inv.tx {σ : Nat → Int32} (hI : Inv σ) {u : Nat} (hu : u < 2) : rg (σ (182 + 125 * u)) 0 60 := (hI.text u hu).1
/-- a change of a pile alone -/
theorem RepW.pile (h : RepW μ w σ) (hI : Inv σ) {u : Nat} (hu : u < 2) (f : Nat → Int32) : RepW (sR μ (w + 37 + 3 * u) f) w σ ∧ FrW w μ (sR μ (w + 37 + 3 * u) f) := by
  refine ⟨⟨fun i p hi hl => ?_, fun k hk g hg => ?_, fun v hv => ⟨?_, fun i hi => ?_⟩⟩, fun l hl => sR_ne (by omega)⟩
  · have := (am_bk hi).2.1
    rw [sR_ne (by omega)]
    exact h.1 i p hi hl
  · have h1 := h.2.1 k hk g hg
    have h6 := hI.n6
    rw [sR_ne (by omega)]
    exact h1
  · rw [sR_ne (by omega)]
    exact (h.2.2 v hv).1
  · rw [sR_ne (by omega)]
    exact (h.2.2 v hv).2 i hi
theorem isTold1 (h : RepW μ w σ) (hI : Inv σ) {u : Nat} (hu : u < 2) : f_X1_isTold (w + 35 + 3 * u) μ = some (b2 (¬ σ (182 + 125 * u) = 0), μ) := by
  have e := (h.2.2 u hu).1
  have hr := rg0 (hI.tx hu)
  unfold f_X1_isTold X1_isTold_J12
  rw [e]
  by_cases c : σ (182 + 125 * u) = 0
  · rw [if_pos (hr.mpr c), b2_f (fun q => q c)]; rfl
  · rw [if_neg (fun q => c (hr.mp q)), b2_t c]; rfl
theorem value1 (h : RepW μ w σ) (hI : Inv σ) {u : Nat} (hu : u < 2) (hn : ¬ σ (182 + 125 * u) = 0) (a b c d : Int32) : ∃ f, f_X1_value (w + 35 + 3 * u) a b c d μ = some (valT (nI u) a b c d (txt σ u), sR μ (w + 37 + 3 * u) f) := by
  have hT := hI.text u hu
  obtain ⟨h1, h2⟩ := h.2.2 u hu
  have hc := rg_clamp (n := 60) (hI.tx hu) (by omega)
  have e0 : txt σ u 0 = σ (182 + 125 * u) := rfl
  have hp : 0 < (σ (182 + 125 * u)).toNatClampNeg := by
    rcases Nat.eq_zero_or_pos (σ (182 + 125 * u)).toNatClampNeg with q | q
    · rw [q] at hc
      exact absurd hc.2 hn
    · exact q
  obtain ⟨f, hf⟩ := value_loop hT (w + 35 + 3 * u) a b c d (N := (σ (182 + 125 * u)).toNatClampNeg) rfl hc.1 hp (σ (182 + 125 * u)).toNatClampNeg 0 μ FU (by omega) (by rw [FU_eq]; omega) (by rw [h1]; exact hc.2) (fun j hj => by
    rw [locF, h2 j hj]
    unfold txt
    rw [show 182 + 125 * u + (1 + 2 * j) = 183 + 125 * u + 2 * j by omega, show 182 + 125 * u + (2 + 2 * j) = 184 + 125 * u + 2 * j by omega]) (fun j hj => by simp [runT] at hj)
  rw [locG] at hf
  exact ⟨f, hf⟩
theorem z0 : (0 : Int32).toNatClampNeg = 0 := by decide
theorem z1 : (1 : Int32).toNatClampNeg = 1 := by decide
theorem fillOf7 (h : RepW μ w σ) (hI : Inv σ) {k g : Nat} (hk : k < nS σ) (hg : g < 6) : ∃ μ', f_X7_fillOf w (nI k) (nI g) μ = some (fil σ k g, μ') ∧ RepW μ' w σ ∧ FrW w μ μ' := by
  have h6 := hI.n6
  have hlo := lft_ok hk
  have hlac : (if sO σ (lft σ k) g ≤ 0 then X7_fillOf_J38 w (nI g) (w + 7 + 3 * k) (σ (19 + 21 * k + g)) (sO σ (lft σ k) g) (σ (19 + 21 * k + g)) μ else X7_fillOf_J38 w (nI g) (w + 7 + 3 * k) (σ (19 + 21 * k + g)) (sO σ (lft σ k) g) 0 μ) = X7_fillOf_J38 w (nI g) (w + 7 + 3 * k) (σ (19 + 21 * k + g)) (sO σ (lft σ k) g) (lac σ k g) μ := by
    unfold lac
    by_cases c : sO σ (lft σ k) g = 0
    · rw [if_pos ((rg0 (sO_nn hI hlo hg)).mpr c), if_pos c]
    · rw [if_neg (fun q => c ((rg0 (sO_nn hI hlo hg)).mp q)), if_neg c]
  unfold f_X7_fillOf
  rw [inb_nI (by omega) (by omega), gd_t, inb_nI hg (by omega), gd_t, clamp_nI (k := k) (by omega), clamp_nI (k := g) (by omega), locA, locB, rd_keeps h hI hk hg, bnd_eq, leftOf7 h hI hk, cal_some, stockOf7 h hI hlo hg, cal_some, hlac]
  unfold X7_fillOf_J38 X7_fillOf_J87 X7_fillOf_J115 fil
  rw [rd_kind h hI hk]
  by_cases c1 : σ (16 + 21 * k) = 1
  · rw [if_pos c1, if_pos c1]
    exact ⟨μ, rfl, h, FrW.rf w μ⟩
  rw [if_neg c1, if_neg c1]
  by_cases c2 : σ (16 + 21 * k) = 2
  · rw [if_pos c2, if_pos c2, gd_nz (by decide)]
    exact ⟨μ, rfl, h, FrW.rf w μ⟩
  rw [if_neg c2, if_neg c2]
  by_cases c3 : σ (16 + 21 * k) = 3
  · rw [if_pos c3, if_pos c3]
    exact ⟨μ, rfl, h, FrW.rf w μ⟩
  rw [if_neg c3, if_neg c3]
  by_cases c4 : σ (16 + 21 * k) = 4
  · rw [if_pos c4, if_pos c4, rd_m h hI hk]
    by_cases d1 : lac σ k g = 0
    · rw [if_pos d1, if_pos d1]
      exact ⟨μ, rfl, h, FrW.rf w μ⟩
    · rw [if_neg d1, if_neg d1]
      exact ⟨μ, rfl, h, FrW.rf w μ⟩
  rw [if_neg c4, if_neg c4]
  by_cases c5 : σ (16 + 21 * k) = 5
  · rw [if_pos c5, if_pos c5, gd_nz (by decide)]
    exact ⟨μ, rfl, h, FrW.rf w μ⟩
  rw [if_neg c5, if_neg c5]
  by_cases c6 : σ (16 + 21 * k) = 6
  · rw [if_pos c6, if_pos c6, z0, show inb (0 : Int32) 2 = true from by decide, gd_t, locE, isTold1 h hI (u := 0) (by omega), cal_some]
    show ∃ μ', (if b2 (¬ σ 182 = 0) = 0 then _ else _) = _ ∧ _
    by_cases d1 : σ 182 = 0
    · rw [b2_f (fun q => q d1), if_pos rfl, if_pos d1]
      exact ⟨μ, rfl, h, FrW.rf w μ⟩
    · rw [b2_t d1, if_neg (by decide), if_neg d1, gd_t, rd_m h hI hk]
      obtain ⟨f, hf⟩ := value1 h hI (u := 0) (by omega) d1 (σ (19 + 21 * k + g)) (sO σ (lft σ k) g) (nI g) (σ (17 + 21 * k))
      obtain ⟨p1, p2⟩ := h.pile hI (u := 0) (by omega) f
      rw [hf, cal_some, hold_eq, cal_some]
      exact ⟨_, rfl, p1, p2⟩
  · rw [if_neg c6, if_neg c6]
    exact ⟨μ, rfl, h, FrW.rf w μ⟩
theorem priceOf7 (h : RepW μ w σ) (hI : Inv σ) {k g : Nat} (hk : k < nS σ) (hg : g < 6) : ∃ μ', f_X7_priceOf w (nI k) (nI g) μ = some (prc σ k g, μ') ∧ RepW μ' w σ ∧ FrW w μ μ' := by
  have h6 := hI.n6
  unfold f_X7_priceOf X7_priceOf_J52 X7_priceOf_J62 prc
  rw [inb_nI (by omega) (by omega), gd_t, inb_nI hg (by omega), gd_t, clamp_nI (k := k) (by omega), clamp_nI (k := g) (by omega), locA, locC, rd_cost h hg, bnd_eq, rd_kind h hI hk, rd_m h hI hk]
  by_cases c2 : σ (16 + 21 * k) = 2
  · rw [if_pos c2, if_pos c2]
    exact ⟨μ, rfl, h, FrW.rf w μ⟩
  rw [if_neg c2, if_neg c2]
  by_cases c3 : σ (16 + 21 * k) = 3
  · rw [if_pos c3, if_pos c3]
    exact ⟨μ, rfl, h, FrW.rf w μ⟩
  rw [if_neg c3, if_neg c3]
  by_cases c4 : σ (16 + 21 * k) = 4
  · rw [if_pos c4, if_pos c4]
    exact ⟨μ, rfl, h, FrW.rf w μ⟩
  rw [if_neg c4, if_neg c4]
  by_cases c5 : σ (16 + 21 * k) = 5
  · rw [if_pos c5, if_pos c5]
    exact ⟨μ, rfl, h, FrW.rf w μ⟩
  rw [if_neg c5, if_neg c5]
  by_cases c6 : σ (16 + 21 * k) = 6
  · rw [if_pos c6, if_pos c6, z1, show inb (1 : Int32) 2 = true from by decide, gd_t, locE, isTold1 h hI (u := 1) (by omega), cal_some]
    show ∃ μ', (if b2 (¬ σ 307 = 0) = 0 then _ else _) = _ ∧ _
    by_cases d1 : σ 307 = 0
    · rw [b2_f (fun q => q d1), if_pos rfl, if_pos d1]
      exact ⟨μ, rfl, h, FrW.rf w μ⟩
    · rw [b2_t d1, if_neg (by decide), if_neg d1, gd_t, gd_t, rd_stock h hI hk hg, rd_days h]
      obtain ⟨f, hf⟩ := value1 h hI (u := 1) (by omega) d1 (σ (10 + g)) (σ (25 + 21 * k + g)) (σ 2) (σ (17 + 21 * k))
      obtain ⟨p1, p2⟩ := h.pile hI (u := 1) (by omega) f
      rw [rd_m h hI hk, hf, cal_some, hold_eq, cal_some]
      exact ⟨_, rfl, p1, p2⟩
  · rw [if_neg c6, if_neg c6]
    exact ⟨μ, rfl, h, FrW.rf w μ⟩
end FILL
