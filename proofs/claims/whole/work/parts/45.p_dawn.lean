/-! PURE 10: a morning -/
def ghb (b0 b1 b2 b3 b4 b5 : Bool) : Int32 :=
  let a0 : Int32 := if b0 then 0 ||| isl 1 (nI 0) else 0
  let a1 := if b1 then a0 ||| isl 1 (nI 1) else a0
  let a2 := if b2 then a1 ||| isl 1 (nI 2) else a1
  let a3 := if b3 then a2 ||| isl 1 (nI 3) else a2
  let a4 := if b4 then a3 ||| isl 1 (nI 4) else a3
  if b5 then a4 ||| isl 1 (nI 5) else a4
theorem ghb_bit : ∀ b0 b1 b2 b3 b4 b5 : Bool, ∀ g, g < 6 → ((isr (ghb b0 b1 b2 b3 b4 b5) (nI g) &&& 1 = 0) ↔ ([b0, b1, b2, b3, b4, b5].getD g false) = false) := by decide +kernel
def ghGo (f : Nat → Int32) : Nat → Nat → Int32 → Int32
  | 0, _, acc => acc
  | d + 1, i, acc => ghGo f d (i + 1) (if decide (¬ f i ≤ 0) = true then acc ||| isl 1 (nI i) else acc)
theorem ghGo_eq (f : Nat → Int32) : ghGo f 6 0 0 = ghb (decide (¬ f 0 ≤ 0)) (decide (¬ f 1 ≤ 0)) (decide (¬ f 2 ≤ 0)) (decide (¬ f 3 ≤ 0)) (decide (¬ f 4 ≤ 0)) (decide (¬ f 5 ≤ 0)) := rfl
theorem ghGo_bit (f : Nat → Int32) {g : Nat} (hg : g < 6) : ((isr (ghGo f 6 0 0) (nI g) &&& 1 = 0) ↔ f g ≤ 0) := by
  rw [ghGo_eq, ghb_bit _ _ _ _ _ _ g hg]
  rcases (show g = 0 ∨ g = 1 ∨ g = 2 ∨ g = 3 ∨ g = 4 ∨ g = 5 by omega) with rfl | rfl | rfl | rfl | rfl | rfl <;> simp
theorem goodsHere5 (a0 : Nat) (μ : Mem) : f_X5_goodsHere a0 μ = some (ghGo (μ (a0 + 2)) 6 0 0, μ) := by
  have key : ∀ d i acc n, i + d = 6 → d < n → X5_goodsHere_L4 n a0 acc (nI i) μ = some (ghGo (μ (a0 + 2)) d i acc, μ) := by
    intro d
    induction d with
    | zero =>
      intro i acc n hi hn
      obtain ⟨n, rfl⟩ : ∃ m, n = m + 1 := ⟨n - 1, by omega⟩
      show X5_goodsHere_L4B _ a0 acc (nI i) μ = _
      unfold X5_goodsHere_L4B
      rw [if_pos ((six_le (by omega)).mpr (by omega))]
      rfl
    | succ d ih =>
      intro i acc n hi hn
      obtain ⟨n, rfl⟩ : ∃ m, n = m + 1 := ⟨n - 1, by omega⟩
      show X5_goodsHere_L4B _ a0 acc (nI i) μ = _
      unfold X5_goodsHere_L4B X5_goodsHere_J25 ghGo
      rw [if_neg (fun q => absurd ((six_le (by omega)).mp q) (by omega)), inb_nI (by omega) (by omega), gd_t, clamp_nI (by omega), bnd_eq, bnd_eq, bnd_eq, nI_s, ih (i + 1) acc n (by omega) (by omega), ih (i + 1) (acc ||| isl 1 (nI i)) n (by omega) (by omega)]
      by_cases c : μ (a0 + 2) i ≤ 0
      · rw [if_pos c, if_neg (by simpa using c)]
      · rw [if_neg c, if_pos (by simpa using c)]
  exact key 6 0 0 FU (by omega) (by decide)
/-- the eve of a shop: what it has now -/
def eveGo (k : Nat) : Nat → Nat → (Nat → Int32) → (Nat → Int32)
  | 0, _, σ => σ
  | d + 1, i, σ => eveGo k d (i + 1) (upd σ (31 + 21 * k + i) (σ (25 + 21 * k + i)))
def eve1 (σ : Nat → Int32) (k : Nat) : Nat → Int32 := eveGo k 6 0 σ
theorem eveGo_at {k : Nat} : ∀ d i (σ : Nat → Int32) j, i + d ≤ 6 → eveGo k d i σ j = if 31 + 21 * k + i ≤ j ∧ j < 31 + 21 * k + i + d then σ (j - 6) else σ j := by
  intro d
  induction d with
  | zero =>
    intro i σ j hi
    rw [if_neg (by omega)]
    rfl
  | succ d ih =>
    intro i σ j hi
    show eveGo k d (i + 1) (upd σ (31 + 21 * k + i) (σ (25 + 21 * k + i))) j = _
    rw [ih (i + 1) _ j (by omega)]
    by_cases c : 31 + 21 * k + (i + 1) ≤ j ∧ j < 31 + 21 * k + (i + 1) + d
    · rw [if_pos c, if_pos (by omega), upd_ne (by omega)]
    · rw [if_neg c]
      by_cases e : j = 31 + 21 * k + i
      · rw [e, upd_same, if_pos (by omega)]
        congr 1
        omega
      · rw [upd_ne e, if_neg (by omega)]
theorem eve1_at {σ : Nat → Int32} {k : Nat} (i : Nat) : eve1 σ k i = if 31 + 21 * k ≤ i ∧ i < 37 + 21 * k then σ (i - 6) else σ i := by
  unfold eve1
  rw [eveGo_at 6 0 σ i (by omega)]
  by_cases c : 31 + 21 * k ≤ i ∧ i < 37 + 21 * k
  · rw [if_pos c, if_pos (by omega)]
  · rw [if_neg c, if_neg (by omega)]
theorem eve1_ok {σ : Nat → Int32} (hI : Inv σ) {k : Nat} (hk : k < 6) : Inv (eve1 σ k) ∧ nS (eve1 σ k) = nS σ ∧ ∀ i, i < 16 ∨ 142 ≤ i → eve1 σ k i = σ i := by
  have ho : ∀ i, i < 16 ∨ 142 ≤ i → eve1 σ k i = σ i := fun i hi => by rw [eve1_at, if_neg (by omega)]
  refine ⟨hI.shops ho (fun k' hk' => ?_), by unfold nS; rw [ho 0 (by omega)], ho⟩
  refine ShopOk.mk (fun j hj => ?_)
  rw [eve1_at, if_neg (by omega)]
  exact (hI.shop k' hk').at hj
/-- the class writes the set -/
theorem eve7 {w k : Nat} {μ : Mem} {σ : Nat → Int32} (h : RepW μ w σ) (hI : Inv σ) (hk : k < nS σ) : RepW (mset μ (w + 7 + 3 * k) 5 (ghGo (μ (w + 9 + 3 * k)) 6 0 0)) w (eve1 σ k) := by
  have h6 := hI.n6
  obtain ⟨hI1, n1, o1⟩ := eve1_ok hI (k := k) (by omega)
  have hlv : lve (eve1 σ k) = lve σ := by
    unfold lve nS nC nT nW
    rw [o1 0 (by omega), o1 1 (by omega), o1 6 (by omega), o1 7 (by omega)]
  refine ⟨?_, ?_, ?_⟩
  · rw [hlv]
    intro i p hi hl
    obtain ⟨a1, a2, a3, a4, a5⟩ := am_bk hi
    rw [mset_ne (fun e => ?_), eve1_at, if_neg (fun e => ?_)]
    · exact h.1 i p hi hl
    · have := a4 (by omega) (by omega); omega
    · have := a5 (by omega) (by omega) (by omega); omega
  · intro k' hk' g hg
    rw [n1] at hk'
    by_cases e : k' = k
    · subst e
      rw [mset_self, ghGo_bit _ hg, eve1_at, if_pos (by omega), rd_stock h hI hk hg, show 31 + 21 * k' + g - 6 = 25 + 21 * k' + g by omega]
      exact rg0 ((hI.shop k' hk).2.2.2.2 g hg)
    · rw [mset_ne (by omega), eve1_at, if_neg (by omega)]
      exact h.2.1 k' hk' g hg
  · intro u hu
    have hle := hI.t60 u hu
    have e0 : eve1 σ k (182 + 125 * u) = σ (182 + 125 * u) := o1 _ (by omega)
    rw [e0]
    refine ⟨?_, fun i hi => ?_⟩
    · rw [mset_ne (by omega)]
      exact (h.2.2 u hu).1
    · rw [mset_ne (by omega), o1 _ (by omega), o1 _ (by omega)]
      exact (h.2.2 u hu).2 i hi
/-- over the shops -/
def shGo (f : (Nat → Int32) → Nat → (Nat → Int32)) : Nat → Nat → (Nat → Int32) → (Nat → Int32)
  | 0, _, σ => σ
  | d + 1, i, σ => shGo f d (i + 1) (f σ i)
def shOk (f : (Nat → Int32) → Nat → (Nat → Int32)) : Prop := ∀ (σ : Nat → Int32) (k : Nat), Inv σ → k < nS σ → Inv (f σ k) ∧ nS (f σ k) = nS σ ∧ ∀ i, i < 16 ∨ 142 ≤ i → f σ k i = σ i
theorem shGo_ok {f : (Nat → Int32) → Nat → (Nat → Int32)} (hf : shOk f) : ∀ d i (σ : Nat → Int32), i + d = nS σ → Inv σ → Inv (shGo f d i σ) ∧ nS (shGo f d i σ) = nS σ ∧ ∀ j, j < 16 ∨ 142 ≤ j → shGo f d i σ j = σ j := by
  intro d
  induction d with
  | zero => intro i σ _ hI; exact ⟨hI, rfl, fun _ _ => rfl⟩
  | succ d ih =>
    intro i σ hi hI
    obtain ⟨a, b, c⟩ := hf σ i hI (by omega)
    obtain ⟨a2, b2, c2⟩ := ih (i + 1) (f σ i) (by omega) a
    exact ⟨a2, b2.trans b, fun j hj => (c2 j hj).trans (c j hj)⟩
def dawn (σ : Nat → Int32) : Nat → Int32 := shGo eve1 (nS σ) 0 (shGo buy1 (nS σ) 0 (shGo fillSh (nS σ) 0 σ))
theorem fill_shOk : shOk fillSh := fun σ k hI hk => fillGo_ok 6 0 σ (by omega) hI hk
theorem buy_shOk : shOk buy1 := fun σ k hI hk => buy1_ok hI hk
theorem eve_shOk : shOk eve1 := fun σ k hI hk => eve1_ok hI (by have := hI.n6; omega)
theorem dawn_ok {σ : Nat → Int32} (hI : Inv σ) : Inv (dawn σ) ∧ nS (dawn σ) = nS σ ∧ ∀ j, j < 16 ∨ 142 ≤ j → dawn σ j = σ j := by
  obtain ⟨a1, b1, c1⟩ := shGo_ok fill_shOk (nS σ) 0 σ (by omega) hI
  obtain ⟨a2, b2, c2⟩ := shGo_ok buy_shOk (nS σ) 0 _ (by omega) a1
  obtain ⟨a3, b3, c3⟩ := shGo_ok eve_shOk (nS σ) 0 _ (by omega) a2
  exact ⟨a3, b3.trans (b2.trans b1), fun j hj => (c3 j hj).trans ((c2 j hj).trans (c1 j hj))⟩
