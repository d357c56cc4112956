/-! PURE 37: purses don't matter to who sells what -/
section
def pIx (i : Nat) : Prop := ∃ k, k < 6 ∧ i = 18 + 21 * k
def eqP (σ τ : Nat → Int32) : Prop := ∀ i, ¬ pIx i → σ i = τ i
def stx (N i : Nat) : Prop := ∃ k g, k < N ∧ g < 6 ∧ i = 25 + 21 * k + g
theorem nP {i : Nat} (h : ∀ k, k < 6 → i ≠ 18 + 21 * k) : ¬ pIx i := fun ⟨k, a, b⟩ => h k a b
theorem eqP.rf (σ : Nat → Int32) : eqP σ σ := fun _ _ => rfl
theorem eqP.tr {a b c : Nat → Int32} (h1 : eqP a b) (h2 : eqP b c) : eqP a c := fun i hi => (h1 i hi).trans (h2 i hi)
section EQP
variable {σ τ : Nat → Int32}
theorem eqP_s (h : eqP σ τ) {k g : Nat} (hg : g < 6) : σ (25 + 21 * k + g) = τ (25 + 21 * k + g) := h _ (nP (fun _ _ => by omega))
theorem eqP_n (h : eqP σ τ) : nS σ = nS τ := by
  unfold nS
  rw [h 0 (nP (fun _ _ => by omega))]
theorem eqP_c (h : eqP σ τ) : nC σ = nC τ := by
  unfold nC
  rw [h 1 (nP (fun _ _ => by omega))]
theorem prc_P (h : eqP σ τ) {k g : Nat} (hg : g < 6) : prc σ k g = prc τ k g := by
  have ht : txt σ 1 = txt τ 1 := funext (fun i => h _ (nP (fun _ _ => by omega)))
  unfold prc
  rw [h (16 + 21 * k) (nP (fun _ _ => by omega)), h (10 + g) (nP (fun _ _ => by omega)), h (17 + 21 * k) (nP (fun _ _ => by omega)), h 307 (nP (fun _ _ => by omega)), h 2 (nP (fun _ _ => by omega)), h (25 + 21 * k + g) (nP (fun _ _ => by omega)), ht]
theorem lft_P (h : eqP σ τ) (k : Nat) : lft σ k = lft τ k := by
  unfold lft
  rw [(eqP_n h), h 4 (nP (fun _ _ => by omega))]
theorem sO_P (h : eqP σ τ) (o : Option Nat) {g : Nat} (hg : g < 6) : sO σ o g = sO τ o g := by
  cases o with
  | none => rfl
  | some k => exact eqP_s h hg
theorem lkE_P (h : eqP σ τ) (o : Option Nat) {g : Nat} (hg : g < 6) : lkE σ o g = lkE τ o g := by
  cases o with
  | none => rfl
  | some k =>
    unfold lkE
    show decide (σ (31 + 21 * k + g) = 0) = decide (τ (31 + 21 * k + g) = 0)
    rw [h _ (nP (fun _ _ => by omega))]
theorem may_P (h : eqP σ τ) (k : Nat) {g : Nat} (hg : g < 6) : may σ k g = may τ k g := by
  have hl : lft σ = lft τ := funext (lft_P h)
  unfold may stk
  rw [hl, sO_P h _ hg, sO_P h _ hg, lkE_P h _ hg, (eqP_s h hg), h 5 (nP (fun _ _ => by omega))]
theorem sold_P (h : eqP σ τ) {k g : Nat} (hk : k < 6) (hg : g < 6) : eqP (sold σ k g) (sold τ k g) := by
  intro i hi
  have hn : i ≠ 18 + 21 * k := fun e => hi ⟨k, hk, e⟩
  unfold sold gts stk
  rw [upd_ne hn, upd_ne hn]
  by_cases e : i = 25 + 21 * k + g
  · rw [e, upd_same, upd_same, (eqP_s h hg)]
  · rw [upd_ne e, upd_ne e]
    exact h i hi
theorem sold_O {k g N : Nat} (hk : k < N) (hN : N ≤ 6) (hg : g < 6) {i : Nat} (hi : ¬ pIx i) (hs : ¬ stx N i) : sold σ k g i = σ i := by
  unfold sold gts stk
  rw [upd_ne (fun e => hi ⟨k, by omega, e⟩), upd_ne (fun e => hs ⟨k, g, hk, hg, e⟩)]
end EQP
def eqV (s t : VS) : Prop := eqP s.1 t.1 ∧ s.2 = t.2
theorem buyG_P {s t : VS} (h : eqV s t) (W : Int32) {k g : Nat} (hk : k < 6) (hg : g < 6) : eqV (buyG W k g s) (buyG W k g t) := by
  obtain ⟨h1, h2⟩ := h
  unfold buyG
  rw [may_P h1 k hg, prc_P h1 hg, h2]
  split
  · exact ⟨sold_P h1 hk hg, rfl⟩
  · exact ⟨h1, h2⟩
theorem buyG_O {s : VS} (W : Int32) {k g N : Nat} (hk : k < N) (hN : N ≤ 6) (hg : g < 6) {i : Nat} (hi : ¬ pIx i) (hs : ¬ stx N i) : (buyG W k g s).1 i = s.1 i := by
  unfold buyG
  split
  · exact sold_O hk hN hg hi hs
  · rfl
theorem atShop_P (W : Int32) {k : Nat} (hk : k < 6) : ∀ d g (s t : VS), g + d = 6 → eqV s t → eqV (atShop W k d g s) (atShop W k d g t) := by
  intro d
  induction d with
  | zero => intro g s t _ h; exact h
  | succ d ih => intro g s t hg h; exact ih (g + 1) _ _ (by omega) (buyG_P h W hk (by omega))
theorem atShop_O (W : Int32) {k N : Nat} (hk : k < N) (hN : N ≤ 6) {i : Nat} (hi : ¬ pIx i) (hs : ¬ stx N i) : ∀ d g (s : VS), g + d = 6 → (atShop W k d g s).1 i = s.1 i := by
  intro d
  induction d with
  | zero => intro g s _; rfl
  | succ d ih => intro g s hg; exact (ih (g + 1) _ (by omega)).trans (buyG_O W hk hN (by omega) hi hs)
theorem plc_P {σ τ : Nat → Int32} (h : eqP σ τ) (c i : Nat) : plc σ c i = plc τ c i := by
  unfold plc
  rw [(eqP_n h), h _ (nP (fun _ _ => by omega))]
theorem visGo_P {σ τ : Nat → Int32} (h : eqP σ τ) (h0 : 0 < nS σ) (h6 : nS σ ≤ 6) (c : Nat) : ∀ d i (s t : VS), eqV s t → eqV (visGo σ c d i s) (visGo τ c d i t) := by
  intro d
  induction d with
  | zero => intro i s t hs; exact hs
  | succ d ih =>
    intro i s t hs
    have hp := plc_lt (c := c) (i := i) h0
    show eqV (visGo σ c d (i + 1) (atShop (σ (142 + 4 * c)) (plc σ c i) 6 0 s)) (visGo τ c d (i + 1) (atShop (τ (142 + 4 * c)) (plc τ c i) 6 0 t))
    rw [← plc_P h, ← h (142 + 4 * c) (nP (fun _ _ => by omega))]
    exact ih (i + 1) _ _ (atShop_P _ (by omega) 6 0 s t (by omega) hs)
theorem visGo_O {σ : Nat → Int32} (h0 : 0 < nS σ) (h6 : nS σ ≤ 6) (c : Nat) {j : Nat} (hj : ¬ pIx j) (hs : ¬ stx (nS σ) j) : ∀ d i (s : VS), (visGo σ c d i s).1 j = s.1 j := by
  intro d
  induction d with
  | zero => intro i s; rfl
  | succ d ih =>
    intro i s
    exact (ih (i + 1) _).trans (atShop_O _ (plc_lt h0) h6 hj hs 6 0 s (by omega))
theorem vis_P {σ τ : Nat → Int32} (h : eqP σ τ) (hI : Inv σ) {c : Nat} (hc : c < nC σ) : eqP (vis σ c).1 (vis τ c).1 := by
  have hst : stp σ c = stp τ c := by
    unfold stp cS
    rw [(eqP_n h), h 4 (nP (fun _ _ => by omega)), h (143 + 4 * c) (nP (fun _ _ => by omega))]
  unfold vis
  rw [← hst, ← h (145 + 4 * c) (nP (fun _ _ => by omega))]
  rcases Nat.eq_zero_or_pos (nS σ) with q | q
  · rw [(stp_ok hI hc).2 q]
    exact h
  · exact (visGo_P h q hI.n6 c (stp σ c) 0 (σ, σ (145 + 4 * c), 0) (τ, σ (145 + 4 * c), 0) ⟨h, rfl⟩).1
theorem vis_O {σ : Nat → Int32} (hI : Inv σ) {c : Nat} (hc : c < nC σ) {j : Nat} (hj : ¬ pIx j) (hs : ¬ stx (nS σ) j) : (vis σ c).1 j = σ j := by
  unfold vis
  rcases Nat.eq_zero_or_pos (nS σ) with q | q
  · rw [(stp_ok hI hc).2 q]
    rfl
  · exact visGo_O q hI.n6 c hj hs _ _ _
/-- behind the first c customers, of whom those of a set came -/
def vP (σ : Nat → Int32) (G : Nat) : Nat → (Nat → Int32)
  | 0 => σ
  | c + 1 => if G.testBit c = true then (vis (vP σ G c) c).1 else vP σ G c
theorem vP_kp {σ : Nat → Int32} (hI : Inv σ) (G : Nat) : ∀ c, c ≤ nC σ → Kp σ (vP σ G c) := by
  intro c
  induction c with
  | zero => intro _; exact Kp.rf hI
  | succ c ih =>
    intro hc
    have h1 := ih (by omega)
    unfold vP
    split
    · exact h1.tr (vis_kp h1.1 (by rw [h1.2.2.1]; omega))
    · exact h1
theorem vP_low (σ : Nat → Int32) {G G' : Nat} : ∀ c, (∀ j, j < c → G.testBit j = G'.testBit j) → vP σ G c = vP σ G' c := by
  intro c
  induction c with
  | zero => intro _; rfl
  | succ c ih =>
    intro h
    unfold vP
    rw [ih (fun j hj => h j (by omega)), h c (by omega)]
theorem vP_no (σ : Nat → Int32) {G c : Nat} (h : G < 2 ^ c) : vP σ G (c + 1) = vP σ G c := by
  show (if G.testBit c = true then (vis (vP σ G c) c).1 else vP σ G c) = _
  rw [Nat.testBit_lt_two_pow h]
  rfl
theorem vP_yes (σ : Nat → Int32) {G c : Nat} (h : G < 2 ^ c) : vP σ (2 ^ c + G) (c + 1) = (vis (vP σ G c) c).1 := by
  show (if (2 ^ c + G).testBit c = true then (vis (vP σ (2 ^ c + G) c) c).1 else vP σ (2 ^ c + G) c) = _
  rw [Nat.testBit_two_pow_add_eq, Nat.testBit_lt_two_pow h, vP_low σ c (fun j hj => Nat.testBit_two_pow_add_gt hj G)]
  rfl
/-- all sets that go on from one -/
def lst : Nat → Nat → Nat → List Nat
  | 0, _, G => [G]
  | d + 1, c, G => lst d (c + 1) G ++ lst d (c + 1) (2 ^ c + G)
theorem range_par : ∀ n, List.Perm (List.range (2 * n)) ((List.range n).map (fun t => 2 * t) ++ (List.range n).map (fun t => 2 * t + 1)) := by
  intro n
  induction n with
  | zero => exact List.Perm.refl _
  | succ n ih =>
    rw [show 2 * (n + 1) = 2 * n + 1 + 1 by omega, List.range_succ, List.range_succ, List.range_succ, List.map_append, List.map_append, List.append_assoc]
    refine (ih.append_right _).trans ?_
    rw [List.append_assoc, List.append_assoc]
    refine List.Perm.append_left _ ?_
    show List.Perm ((List.range n).map (fun t => 2 * t + 1) ++ ([2 * n] ++ [2 * n + 1])) ([2 * n] ++ ((List.range n).map (fun t => 2 * t + 1) ++ [2 * n + 1]))
    rw [← List.append_assoc, ← List.append_assoc]
    exact List.Perm.append_right _ List.perm_append_comm
theorem lst_perm : ∀ d c G, List.Perm (lst d c G) ((List.range (2 ^ d)).map (fun t => G + 2 ^ c * t)) := by
  intro d
  induction d with
  | zero =>
    intro c G
    show List.Perm [G] [G + 2 ^ c * 0]
    exact List.Perm.refl _
  | succ d ih =>
    intro c G
    have h1 := (ih (c + 1) G).append (ih (c + 1) (2 ^ c + G))
    refine h1.trans ?_
    have h2 := (range_par (2 ^ d)).map (fun t => G + 2 ^ c * t)
    rw [List.map_append, List.map_map, List.map_map] at h2
    rw [show 2 ^ (d + 1) = 2 * 2 ^ d by rw [Nat.pow_succ, Nat.mul_comm]]
    refine List.Perm.trans ?_ h2.symm
    have e1 : (fun t => G + 2 ^ (c + 1) * t) = (fun t => G + 2 ^ c * t) ∘ (fun t => 2 * t) := by
      funext t
      show G + 2 ^ (c + 1) * t = G + 2 ^ c * (2 * t)
      rw [Nat.pow_succ, Nat.mul_assoc]
    have e2 : (fun t => 2 ^ c + G + 2 ^ (c + 1) * t) = (fun t => G + 2 ^ c * t) ∘ (fun t => 2 * t + 1) := by
      funext t
      show 2 ^ c + G + 2 ^ (c + 1) * t = G + 2 ^ c * (2 * t + 1)
      rw [Nat.pow_succ, Nat.mul_assoc, Nat.mul_add, Nat.mul_one]
      omega
    rw [e1, e2]
theorem lst_all (d : Nat) : List.Perm (lst d 0 0) (List.range (2 ^ d)) := by
  have := lst_perm d 0 0
  have e : (fun t => 0 + 2 ^ 0 * t) = (id : Nat → Nat) := funext (fun t => by show 0 + 1 * t = t; omega)
  rw [e, List.map_id] at this
  exact this
/-- how many, the least, what is in all, what is in some -/
abbrev AC : Type := Nat × Nat × Int32 × Int32
def stC (P : Nat → Bool) (a : AC) (G : Nat) : AC := if P G = true then (a.1 + 1, (if a.1 = 0 then G else min a.2.1 G), a.2.2.1 &&& nI G, a.2.2.2 ||| nI G) else a
theorem stC_comm (P : Nat → Bool) (x y : Nat) (a : AC) : stC P (stC P a x) y = stC P (stC P a y) x := by
  unfold stC
  by_cases hx : P x = true
  · by_cases hy : P y = true
    · rw [if_pos hx, if_pos hy, if_pos hy, if_pos hx]
      show (a.1 + 1 + 1, (if a.1 + 1 = 0 then y else min (if a.1 = 0 then x else min a.2.1 x) y), a.2.2.1 &&& nI x &&& nI y, a.2.2.2 ||| nI x ||| nI y) = (a.1 + 1 + 1, (if a.1 + 1 = 0 then x else min (if a.1 = 0 then y else min a.2.1 y) x), a.2.2.1 &&& nI y &&& nI x, a.2.2.2 ||| nI y ||| nI x)
      rw [if_neg (show ¬ a.1 + 1 = 0 by omega), if_neg (show ¬ a.1 + 1 = 0 by omega), Int32.and_assoc, Int32.and_comm (nI x), ← Int32.and_assoc, Int32.or_assoc, Int32.or_comm (nI x), ← Int32.or_assoc]
      have : min (if a.1 = 0 then x else min a.2.1 x) y = min (if a.1 = 0 then y else min a.2.1 y) x := by
        by_cases e : a.1 = 0
        · rw [if_pos e, if_pos e, Nat.min_comm]
        · rw [if_neg e, if_neg e, Nat.min_assoc, Nat.min_comm x, ← Nat.min_assoc]
      rw [this]
    · rw [if_pos hx, if_neg hy, if_neg hy, if_pos hx]
  · by_cases hy : P y = true
    · rw [if_neg hx, if_pos hy, if_neg hx]
    · rw [if_neg hx, if_neg hy, if_neg hx]
theorem fold_all (P : Nat → Bool) (a : AC) (d : Nat) : (lst d 0 0).foldl (stC P) a = (List.range (2 ^ d)).foldl (stC P) a := (lst_all d).foldl_eq' (fun x _ y _ z => stC_comm P x y z) a
end
