/-! PURE 14: a day -/
section FREE
variable {σ : Nat → Int32}
/-- a number that nothing bounds -/
theorem Inv.free (hI : Inv σ) {i : Nat} (hi : i = 2 ∨ i = 3 ∨ i = 8) (v : Int32) : Inv (upd σ i v) ∧ nS (upd σ i v) = nS σ ∧ nC (upd σ i v) = nC σ := by
  have c10 := hI.c10
  have s6 := hI.n6
  have t60 := hI.T60
  obtain ⟨h0, h1, h4, h5, h6, h7, hc, hS, hC, hT, hB⟩ := hI
  have he : ∀ j, j ≠ 2 → j ≠ 3 → j ≠ 8 → upd σ i v j = σ j := fun j a b c => upd_ne (by omega)
  have n0 : nS (upd σ i v) = nS σ := by unfold nS; rw [he 0 (by omega) (by omega) (by omega)]
  have n1 : nC (upd σ i v) = nC σ := by unfold nC; rw [he 1 (by omega) (by omega) (by omega)]
  have n6 : nT (upd σ i v) = nT σ := by unfold nT; rw [he 6 (by omega) (by omega) (by omega)]
  refine ⟨⟨by rw [he 0 (by omega) (by omega) (by omega)]; exact h0, by rw [he 1 (by omega) (by omega) (by omega)]; exact h1, by rw [he 4 (by omega) (by omega) (by omega)]; exact h4, by rw [he 5 (by omega) (by omega) (by omega)]; exact h5, by rw [he 6 (by omega) (by omega) (by omega)]; exact h6, by rw [he 7 (by omega) (by omega) (by omega)]; exact h7, fun g hg => by rw [he _ (by omega) (by omega) (by omega)]; exact hc g hg, fun k hk => ?_, fun c hc => ?_, fun u hu => ?_, fun j hj => ?_⟩, n0, n1⟩
  · rw [n0] at hk
    refine ShopOk.mk (fun j hj => ?_)
    rw [he _ (by omega) (by omega) (by omega)]
    exact (hS k hk).at hj
  · rw [n1] at hc
    exact (hC c hc).eq (by omega) (fun j h1 h2 => he j (by omega) (by omega) (by omega))
  · exact (hT u hu).eq (txt_eq hu (fun j h1 h2 => he j (by omega) (by omega) (by omega)))
  · rw [n6] at hj
    rw [he _ (by omega) (by omega) (by omega)]
    exact hB j hj
theorem wr_sales {μ : Mem} {w : Nat} (h : RepW μ w σ) (hI : Inv σ) (v : Int32) : RepW (mset μ w 8 v) w (upd σ 3 v) := h.wr hI (i := 3) (p := (0, 8)) rfl (by omega) (by omega) (by omega) (by omega) v
theorem wr_days {μ : Mem} {w : Nat} (h : RepW μ w σ) (hI : Inv σ) (v : Int32) : RepW (mset μ w 7 v) w (upd σ 2 v) := h.wr hI (i := 2) (p := (0, 7)) rfl (by omega) (by omega) (by omega) (by omega) v
theorem wr_z {μ : Mem} {w : Nat} (h : RepW μ w σ) (hI : Inv σ) (v : Int32) : RepW (mset μ w 9 v) w (upd σ 8 v) := h.wr hI (i := 8) (p := (0, 9)) rfl (by omega) (by omega) (by omega) (by omega) v
theorem FrW.m0 {w : Nat} {μ : Mem} {j : Nat} {v : Int32} : FrW w μ (mset μ w j v) := FrW.ms (a := 0) (by omega)
theorem upd_comm {i j : Nat} (h : i ≠ j) (a b : Int32) : upd (upd σ i a) j b = upd (upd σ j b) i a := by
  funext k
  unfold upd
  by_cases h1 : k = j
  · rw [if_pos h1, if_neg (by omega), if_pos h1]
  · rw [if_neg h1]
    by_cases h2 : k = i
    · rw [if_pos h2, if_pos h2]
    · rw [if_neg h2, if_neg h2, if_neg h1]
theorem upd_upd (i : Nat) (a b : Int32) : upd (upd σ i a) i b = upd σ i b := by
  funext k
  unfold upd
  by_cases h1 : k = i
  · rw [if_pos h1, if_pos h1]
  · rw [if_neg h1, if_neg h1, if_neg h1]
theorem upd_id (i : Nat) : upd σ i (σ i) = σ := by
  funext k
  unfold upd
  by_cases h1 : k = i
  · rw [if_pos h1, h1]
  · rw [if_neg h1]
theorem prc_3 (v : Int32) (k g : Nat) : prc (upd σ 3 v) k g = prc σ k g := by
  have he : ∀ j, j ≠ 3 → upd σ 3 v j = σ j := fun j a => upd_ne a
  have ht : txt (upd σ 3 v) 1 = txt σ 1 := funext (fun i => he _ (by omega))
  unfold prc
  rw [he (16 + 21 * k) (by omega), he (10 + g) (by omega), he (17 + 21 * k) (by omega), he 307 (by omega), he 2 (by omega), he (25 + 21 * k + g) (by omega), ht]
theorem lft_3 (v : Int32) (k : Nat) : lft (upd σ 3 v) k = lft σ k := by
  unfold lft nS
  rw [upd_ne (by omega), upd_ne (by omega)]
theorem sO_3 (v : Int32) (o : Option Nat) (g : Nat) : sO (upd σ 3 v) o g = sO σ o g := by
  cases o with
  | none => rfl
  | some k => show upd σ 3 v _ = σ _; rw [upd_ne (by omega)]
theorem lkE_3 (v : Int32) (o : Option Nat) (g : Nat) : lkE (upd σ 3 v) o g = lkE σ o g := by
  cases o with
  | none => rfl
  | some k => unfold lkE; show decide (upd σ 3 v _ = 0) = _; rw [upd_ne (by omega)]
theorem may_3 (v : Int32) (k g : Nat) : may (upd σ 3 v) k g = may σ k g := by
  have hl : lft (upd σ 3 v) = lft σ := funext (lft_3 v)
  unfold may stk
  rw [hl, sO_3, sO_3, lkE_3, upd_ne (by omega), upd_ne (by omega)]
theorem sold_3 (v : Int32) (k g : Nat) : sold (upd σ 3 v) k g = upd (sold σ k g) 3 v := by
  unfold sold gts stk
  rw [prc_3, upd_ne (f := σ) (j := 25 + 21 * k + g) (by omega), upd_comm (σ := σ) (i := 3) (j := 25 + 21 * k + g) (by omega), upd_ne (i := 3) (j := 18 + 21 * k) (by omega), upd_comm (i := 3) (j := 18 + 21 * k) (by omega)]
def V3 (v : Int32) (s : VS) : VS := (upd s.1 3 v, s.2.1, s.2.2)
theorem buyG_3 (v : Int32) (W : Int32) (k g : Nat) (s : VS) : buyG W k g (V3 v s) = V3 v (buyG W k g s) := by
  unfold buyG
  show (if want W s.2.2 g = true ∧ may (upd s.1 3 v) k g = true ∧ ¬ s.2.1 < prc (upd s.1 3 v) k g then (sold (upd s.1 3 v) k g, s.2.1 - prc (upd s.1 3 v) k g, s.2.2 ||| isl 1 (nI g)) else V3 v s) = _
  rw [may_3, prc_3, sold_3]
  split <;> rfl
theorem atShop_3 (v : Int32) (W : Int32) (k : Nat) : ∀ d g (s : VS), atShop W k d g (V3 v s) = V3 v (atShop W k d g s) := by
  intro d
  induction d with
  | zero => intro g s; rfl
  | succ d ih =>
    intro g s
    show atShop W k d (g + 1) (buyG W k g (V3 v s)) = V3 v (atShop W k d (g + 1) (buyG W k g s))
    rw [buyG_3, ih]
theorem plc_3 (v : Int32) (c i : Nat) : plc (upd σ 3 v) c i = plc σ c i := by
  unfold plc nS
  rw [upd_ne (by omega), upd_ne (by omega)]
theorem visGo_3 (v : Int32) (c : Nat) : ∀ d i (s : VS), visGo (upd σ 3 v) c d i (V3 v s) = V3 v (visGo σ c d i s) := by
  intro d
  induction d with
  | zero => intro i s; rfl
  | succ d ih =>
    intro i s
    show visGo (upd σ 3 v) c d (i + 1) (atShop (upd σ 3 v (142 + 4 * c)) (plc (upd σ 3 v) c i) 6 0 (V3 v s)) = V3 v (visGo σ c d (i + 1) (atShop (σ (142 + 4 * c)) (plc σ c i) 6 0 s))
    rw [upd_ne (by omega), plc_3, atShop_3, ih]
theorem vis_3 (v : Int32) (c : Nat) : vis (upd σ 3 v) c = V3 v (vis σ c) := by
  have h1 : stp (upd σ 3 v) c = stp σ c := by
    unfold stp nS cS
    rw [upd_ne (by omega), upd_ne (by omega), upd_ne (by omega)]
  unfold vis
  rw [h1, upd_ne (by omega)]
  exact visGo_3 v c _ _ (σ, σ (145 + 4 * c), 0)
end FREE
/-- bits -/
def bcG : Nat → Int32 → Int32 → Option Int32
  | 0, _, _ => none
  | n + 1, a, x => if x = 0 then some a else bcG n (a + 1) (x &&& (x - 1))
def bcn (x : Int32) : Int32 := (x &&& 1) + (isr x 1 &&& 1) + (isr x 2 &&& 1) + (isr x 3 &&& 1) + (isr x 4 &&& 1) + (isr x 5 &&& 1)
theorem bcG_eq : ∀ n a x (μ : Mem), X9_bitsOf_L4 n a x μ = (bcG n a x).map (fun r => (r, μ)) := by
  intro n
  induction n with
  | zero => intro a x μ; rfl
  | succ n ih =>
    intro a x μ
    show X9_bitsOf_L4B (X9_bitsOf_L4 n) a x μ = _
    unfold X9_bitsOf_L4B bcG
    rw [bnd_eq, bnd_eq]
    by_cases h : x = 0
    · rw [if_pos h, if_pos h]; rfl
    · rw [if_neg h, if_neg h]; exact ih _ _ μ
theorem bcG_all : ∀ a, a ≤ 63 → bcG FU 0 (nI a) = some (bcn (nI a)) := by decide +kernel
theorem bitsOf9 {x : Int32} (h : rg x 0 63) (μ : Mem) : f_X9_bitsOf x μ = some (bcn x, μ) := by
  obtain ⟨a, ha, rfl⟩ := rg_nI (n := 63) h (by omega)
  unfold f_X9_bitsOf
  rw [bcG_eq, bcG_all a ha]
  rfl
