/-! PURE 16: a World is copied -/
theorem lit_le {x : Int32} (a : Nat) (hx : x = nI a) {i : Nat} (ha : a < 2 ^ 31) (hi : i < 2 ^ 31) : (x ≤ nI i) ↔ a ≤ i := by
  rw [hx]
  exact nI_leI ha hi
theorem mcpy_ne {μ : Mem} {a b n l : Nat} (h : l ≠ b) : mcpy μ a 0 b 0 n l = μ l := by
  funext i
  exact if_neg h
theorem mcpy_at {μ : Mem} {a b n i : Nat} (h : i < n) : mcpy μ a 0 b 0 n b i = μ a i := by
  unfold mcpy va_cpy
  rw [if_pos rfl, if_pos (by omega)]
  congr 1
  omega
theorem mset_row {μ : Mem} {l i a : Nat} {v : Int32} (h : a ≠ l) : mset μ l i v a = μ a := by
  funext b
  exact mset_ne (by omega)
theorem cpok_nI {n na nb : Nat} (h1 : n ≤ na) (h2 : n ≤ nb) (h3 : n < 2 ^ 31) : cpok 0 0 (nI n) na nb = true := by
  unfold cpok
  rw [z0, clamp_nI h3, decide_eq_true (by decide), decide_eq_true (nI_neg h3), decide_eq_true (by omega), decide_eq_true (by omega)]
  rfl
theorem six_c : (6 : Int32).toNatClampNeg = 6 := by decide
theorem copy5 {d s : Nat} (h : s + 3 ≤ d ∨ d + 3 ≤ s) (μ : Mem) : ∃ μ', f_X5_copyFrom d s μ = some (0, μ') ∧ (∀ l, l < d ∨ d + 3 ≤ l → μ' l = μ l) ∧ (∀ f, f = 0 ∨ f = 1 ∨ f = 2 ∨ f = 5 → μ' d f = μ s f) ∧ (∀ i, i < 6 → μ' (d + 1) i = μ (s + 1) i) ∧ (∀ i, i < 6 → μ' (d + 2) i = μ (s + 2) i) := by
  unfold f_X5_copyFrom
  rw [bnd_eq, bnd_eq, bnd_eq, bnd_eq, show cpok 0 0 6 6 6 = true from by decide, gd_t, bnd_eq, gd_t, bnd_eq, z0, six_c]
  refine ⟨_, rfl, fun l hl => ?_, fun f hf => ?_, fun i hi => ?_, fun i hi => ?_⟩
  · rw [mcpy_ne (by omega), mcpy_ne (by omega), mset_row (by omega), mset_row (by omega), mset_row (by omega), mset_row (by omega)]
  · rw [mcpy_ne (by omega), mcpy_ne (by omega)]
    have e1 : mset μ d 0 (μ s 0) s = μ s := mset_row (by omega)
    have e2 : mset (mset μ d 0 (μ s 0)) d 1 (μ s 1) s = μ s := by rw [mset_row (by omega)]; exact e1
    have e3 : mset (mset (mset μ d 0 (μ s 0)) d 1 (μ s 1)) d 2 (μ s 2) s = μ s := by rw [mset_row (by omega)]; exact e2
    rw [e1, e2, e3]
    rcases hf with rfl | rfl | rfl | rfl
    · rw [mset_ne (by omega), mset_ne (by omega), mset_ne (by omega), mset_self]
    · rw [mset_ne (by omega), mset_ne (by omega), mset_self]
    · rw [mset_ne (by omega), mset_self]
    · rw [mset_self]
  · rw [mcpy_ne (by omega), mcpy_at hi, mset_row (by omega), mset_row (by omega), mset_row (by omega), mset_row (by omega)]
  · rw [mcpy_at hi, mcpy_ne (by omega), mset_row (by omega), mset_row (by omega), mset_row (by omega), mset_row (by omega)]
theorem copy0 {d s : Nat} (h : s ≠ d) (μ : Mem) : ∃ μ', f_X0_copyFrom d s μ = some (0, μ') ∧ (∀ l, l ≠ d → μ' l = μ l) ∧ (∀ f, f < 4 → μ' d f = μ s f) := by
  unfold f_X0_copyFrom
  rw [bnd_eq, bnd_eq, bnd_eq, bnd_eq]
  refine ⟨_, rfl, fun l hl => ?_, fun f hf => ?_⟩
  · rw [mset_row hl, mset_row hl, mset_row hl, mset_row hl]
  · have e1 : mset μ d 0 (μ s 0) s = μ s := mset_row h
    have e2 : mset (mset μ d 0 (μ s 0)) d 1 (μ s 1) s = μ s := by rw [mset_row h]; exact e1
    have e3 : mset (mset (mset μ d 0 (μ s 0)) d 1 (μ s 1)) d 2 (μ s 2) s = μ s := by rw [mset_row h]; exact e2
    rw [e1, e2, e3]
    rcases (show f = 0 ∨ f = 1 ∨ f = 2 ∨ f = 3 by omega) with rfl | rfl | rfl | rfl
    · rw [mset_ne (by omega), mset_ne (by omega), mset_ne (by omega), mset_self]
    · rw [mset_ne (by omega), mset_ne (by omega), mset_self]
    · rw [mset_ne (by omega), mset_self]
    · rw [mset_self]
theorem take1 {d s n N : Nat} (hs : s ≠ d + 1) (hsd : s ≠ d) (hn : n ≤ N) (h60 : n ≤ 60) (hN : N ≤ 2000) (μ : Mem) : ∃ μ', f_X1_take d s N (nI n) μ = some (0, μ') ∧ (∀ l, l ≠ d → l ≠ d + 1 → μ' l = μ l) ∧ μ' d 1 = nI n ∧ (∀ f, f ≠ 1 → μ' d f = μ d f) ∧ ∀ i, i < n → μ' (d + 1) i = μ s i := by
  unfold f_X1_take
  rw [cpok_nI hn h60 (by omega), gd_t, bnd_eq, bnd_eq, z0, clamp_nI (by omega)]
  refine ⟨_, rfl, fun l h1 h2 => ?_, ?_, fun f hf => ?_, fun i hi => ?_⟩
  · rw [mset_row h1, mcpy_ne h2]
  · rw [mset_self]
  · rw [mset_ne (by omega), mcpy_ne (by omega)]
  · rw [mset_row (by omega), mcpy_at hi]
theorem am_shape : (List.range 516).all (fun i => match am i with
  | some p => decide ((i < 9 ∧ p.1 = 0 ∧ p.2 ∈ [1, 2, 4, 6, 7, 8, 9, 12, 14]) ∨ (10 ≤ i ∧ i < 16 ∧ p.1 = 1 ∧ p.2 < 6) ∨ (16 ≤ i ∧ i < 142 ∧ ((p.1 = 7 + 3 * ((i - 16) / 21) ∧ p.2 < 3) ∨ (p.1 = 8 + 3 * ((i - 16) / 21) ∧ p.2 < 6) ∨ (p.1 = 9 + 3 * ((i - 16) / 21) ∧ p.2 < 6))) ∨ (142 ≤ i ∧ i < 182 ∧ p.1 = 25 + (i - 142) / 4 ∧ p.2 < 4) ∨ (432 ≤ i ∧ i < 492 ∧ p.1 = 5 ∧ p.2 = i - 432) ∨ (492 ≤ i ∧ i < 516 ∧ p.1 = 6 ∧ p.2 = i - 492))
  | none => true) = true := by decide +kernel
theorem am_sh {i : Nat} {p : Nat × Nat} (h : am i = some p) : ((i < 9 ∧ p.1 = 0 ∧ p.2 ∈ [1, 2, 4, 6, 7, 8, 9, 12, 14]) ∨ (10 ≤ i ∧ i < 16 ∧ p.1 = 1 ∧ p.2 < 6) ∨ (16 ≤ i ∧ i < 142 ∧ ((p.1 = 7 + 3 * ((i - 16) / 21) ∧ p.2 < 3) ∨ (p.1 = 8 + 3 * ((i - 16) / 21) ∧ p.2 < 6) ∨ (p.1 = 9 + 3 * ((i - 16) / 21) ∧ p.2 < 6))) ∨ (142 ≤ i ∧ i < 182 ∧ p.1 = 25 + (i - 142) / 4 ∧ p.2 < 4) ∨ (432 ≤ i ∧ i < 492 ∧ p.1 = 5 ∧ p.2 = i - 432) ∨ (492 ≤ i ∧ i < 516 ∧ p.1 = 6 ∧ p.2 = i - 492)) := by
  have h1 := List.all_eq_true.mp am_shape i (List.mem_range.mpr (am_lt h))
  rw [h] at h1
  exact of_decide_eq_true h1
/-- all that must be copied is copied -/
def Cp (w v : Nat) (μ μ' : Mem) (S C T W : Nat) (t : Nat → Nat) : Prop :=
  (∀ f, f ∈ [1, 2, 4, 6, 7, 8, 9, 12, 14] → μ' w f = μ v f) ∧ (∀ g, g < 6 → μ' (w + 1) g = μ (v + 1) g) ∧
  (∀ k, k < S → (∀ f, f = 0 ∨ f = 1 ∨ f = 2 ∨ f = 5 → μ' (w + 7 + 3 * k) f = μ (v + 7 + 3 * k) f) ∧ (∀ i, i < 6 → μ' (w + 8 + 3 * k) i = μ (v + 8 + 3 * k) i) ∧ (∀ i, i < 6 → μ' (w + 9 + 3 * k) i = μ (v + 9 + 3 * k) i)) ∧
  (∀ c, c < C → ∀ f, f < 4 → μ' (w + 25 + c) f = μ (v + 25 + c) f) ∧ (∀ i, i < T → μ' (w + 5) i = μ (v + 5) i) ∧ (∀ i, i < W → μ' (w + 6) i = μ (v + 6) i) ∧
  (∀ u, u < 2 → μ' (w + 35 + 3 * u) 1 = μ (v + 35 + 3 * u) 1 ∧ ∀ i, i < t u → μ' (w + 36 + 3 * u) i = μ (v + 36 + 3 * u) i)
theorem Cp.rep {w v : Nat} {μ μ' : Mem} {σ : Nat → Int32} (h : RepW μ v σ) (hc : Cp w v μ μ' (nS σ) (nC σ) (nT σ) (nW σ) (fun u => (σ (182 + 125 * u)).toNatClampNeg)) : RepW μ' w σ := by
  obtain ⟨c1, c2, c3, c4, c5, c6, c7⟩ := hc
  refine ⟨fun i p hi hl => ?_, fun k hk g hg => ?_, fun u hu => ⟨?_, fun i hi => ?_⟩⟩
  · rw [← h.1 i p hi hl]
    obtain ⟨l1, l2, l3, l4⟩ := hl
    rcases am_sh hi with ⟨-, e, m⟩ | ⟨-, -, e, m⟩ | ⟨a, b, e⟩ | ⟨a, b, e, m⟩ | ⟨a, b, e, m⟩ | ⟨a, b, e, m⟩
    · rw [e]; exact c1 _ m
    · rw [e]; exact c2 _ m
    · have := c3 _ (l1 a b)
      rcases e with ⟨e, m⟩ | ⟨e, m⟩ | ⟨e, m⟩
      · rw [e, ← Nat.add_assoc, ← Nat.add_assoc]; exact this.1 _ (by omega)
      · rw [e, ← Nat.add_assoc, ← Nat.add_assoc]; exact this.2.1 _ m
      · rw [e, ← Nat.add_assoc, ← Nat.add_assoc]; exact this.2.2 _ m
    · have := c4 _ (l2 a b) _ m
      rw [e, ← Nat.add_assoc, ← Nat.add_assoc]; exact this
    · have := l3 a b
      rw [e]; exact c5 _ (by omega)
    · have := l4 a
      rw [e]; exact c6 _ (by omega)
  · rw [(c3 k hk).1 5 (by omega)]
    exact h.2.1 k hk g hg
  · rw [(c7 u hu).1]
    exact (h.2.2 u hu).1
  · rw [(c7 u hu).2 i hi]
    exact (h.2.2 u hu).2 i hi
section CPL
variable {w v : Nat} (hd : v + 41 ≤ w ∨ w + 41 ≤ v)
theorem cp50 (hd : v + 41 ≤ w ∨ w + 41 ≤ v) {N : Nat} (hN : N ≤ 6) : ∀ d i (μ : Mem) n, i + d = N → d < n → μ w 4 = nI N → ∃ μ', X7_copyFrom_L50 n w v (nI i) μ = X7_copyFrom_L89 FU w v 0 (mset μ' w 6 (μ' v 6)) ∧ (∀ l, l < w + 7 + 3 * i ∨ w + 25 ≤ l → μ' l = μ l) ∧ (∀ k, i ≤ k → k < N → (∀ f, f = 0 ∨ f = 1 ∨ f = 2 ∨ f = 5 → μ' (w + 7 + 3 * k) f = μ (v + 7 + 3 * k) f) ∧ (∀ i, i < 6 → μ' (w + 8 + 3 * k) i = μ (v + 8 + 3 * k) i) ∧ (∀ i, i < 6 → μ' (w + 9 + 3 * k) i = μ (v + 9 + 3 * k) i)) := by
  intro d
  induction d with
  | zero =>
    intro i μ n hi hn h
    obtain ⟨n, rfl⟩ : ∃ m, n = m + 1 := ⟨n - 1, by omega⟩
    refine ⟨μ, ?_, fun _ _ => rfl, fun k h1 h2 => by omega⟩
    show X7_copyFrom_L50B _ w v (nI i) μ = _
    unfold X7_copyFrom_L50B
    rw [h, if_pos ((nI_leq (by omega) (by omega)).mpr (by omega)), bnd_eq]
  | succ d ih =>
    intro i μ n hi hn h
    obtain ⟨n, rfl⟩ : ∃ m, n = m + 1 := ⟨n - 1, by omega⟩
    obtain ⟨μ1, e1, f1, g1, g2, g3⟩ := copy5 (d := w + 7 + 3 * i) (s := v + 7 + 3 * i) (by omega) μ
    obtain ⟨μ2, e2, f2, g⟩ := ih (i + 1) μ1 n (by omega) (by omega) (by rw [f1 _ (by omega)]; exact h)
    refine ⟨μ2, ?_, fun l hl => ?_, fun k h1 h2 => ?_⟩
    · show X7_copyFrom_L50B _ w v (nI i) μ = _
      unfold X7_copyFrom_L50B
      rw [h, if_neg (fun q => absurd ((nI_leq (by omega) (by omega)).mp q) (by omega)), inb_nI (by omega) (by omega), gd_t, gd_t, clamp_nI (by omega), locA, locA, e1, cal_some, bnd_eq, nI_s]
      exact e2
    · rw [f2 l (by omega), f1 l (by omega)]
    · by_cases e : k = i
      · subst e
        refine ⟨fun f hf => ?_, fun j hj => ?_, fun j hj => ?_⟩
        · rw [f2 _ (by omega)]; exact g1 f hf
        · rw [f2 _ (by omega)]
          have := g2 j hj
          rw [locB, locB] at this
          exact this
        · rw [f2 _ (by omega)]
          have := g3 j hj
          rw [locC, locC] at this
          exact this
      · have := g k (by omega) h2
        rw [f1 (v + 7 + 3 * k) (by omega), f1 (v + 8 + 3 * k) (by omega), f1 (v + 9 + 3 * k) (by omega)] at this
        exact this
theorem cp89 (hd : v + 41 ≤ w ∨ w + 41 ≤ v) {N : Nat} (hN : N ≤ 10) : ∀ d i (μ : Mem) n, i + d = N → d < n → μ w 6 = nI N → ∃ μ', X7_copyFrom_L89 n w v (nI i) μ = X7_copyFrom_L120 FU w v 0 μ' ∧ (∀ l, l < w + 25 + i ∨ w + 35 ≤ l → μ' l = μ l) ∧ (∀ k, i ≤ k → k < N → ∀ f, f < 4 → μ' (w + 25 + k) f = μ (v + 25 + k) f) := by
  intro d
  induction d with
  | zero =>
    intro i μ n hi hn h
    obtain ⟨n, rfl⟩ : ∃ m, n = m + 1 := ⟨n - 1, by omega⟩
    refine ⟨μ, ?_, fun _ _ => rfl, fun k h1 h2 => by omega⟩
    show X7_copyFrom_L89B _ w v (nI i) μ = _
    unfold X7_copyFrom_L89B
    rw [h, if_pos ((nI_leq (by omega) (by omega)).mpr (by omega))]
  | succ d ih =>
    intro i μ n hi hn h
    obtain ⟨n, rfl⟩ : ∃ m, n = m + 1 := ⟨n - 1, by omega⟩
    obtain ⟨μ1, e1, f1, g1⟩ := copy0 (d := w + 25 + i) (s := v + 25 + i) (by omega) μ
    obtain ⟨μ2, e2, f2, g⟩ := ih (i + 1) μ1 n (by omega) (by omega) (by rw [f1 _ (by omega)]; exact h)
    refine ⟨μ2, ?_, fun l hl => ?_, fun k h1 h2 f hf => ?_⟩
    · show X7_copyFrom_L89B _ w v (nI i) μ = _
      unfold X7_copyFrom_L89B
      rw [h, if_neg (fun q => absurd ((nI_leq (by omega) (by omega)).mp q) (by omega)), inb_nI (by omega) (by omega), gd_t, gd_t, clamp_nI (by omega), locD, locD, e1, cal_some, bnd_eq, nI_s]
      exact e2
    · rw [f2 l (by omega), f1 l (by omega)]
    · by_cases e : k = i
      · subst e
        rw [f2 _ (by omega)]
        exact g1 f hf
      · rw [g k (by omega) h2 f hf, f1 _ (by omega)]
/-- the end of a copy: tape, waits, costs -/
def cpE (w v : Nat) (μ : Mem) (T W : Nat) : Mem :=
  mcpy (mcpy (mset (mcpy (mset μ w 12 (μ v 12)) (v + 5) 0 (w + 5) 0 T) w 14 (μ v 14)) (v + 6) 0 (w + 6) 0 W) (v + 1) 0 (w + 1) 0 6
theorem cp120 (hd : v + 41 ≤ w ∨ w + 41 ≤ v) {t : Nat → Nat} (ht : ∀ u, u < 2 → t u ≤ 60) {T W : Nat} (hT : T ≤ 60) (hW : W ≤ 24) : ∀ d i (μ : Mem) n, i + d = 2 → d < n → (∀ u, u < 2 → μ (v + 35 + 3 * u) 1 = nI (t u)) → μ v 12 = nI T → μ v 14 = nI W → ∃ μ', X7_copyFrom_L120 n w v (nI i) μ = some (0, cpE w v μ' T W) ∧ (∀ l, l < w + 35 + 3 * i ∨ w + 41 ≤ l → μ' l = μ l) ∧ (∀ u, i ≤ u → u < 2 → μ' (w + 35 + 3 * u) 1 = μ (v + 35 + 3 * u) 1 ∧ ∀ j, j < t u → μ' (w + 36 + 3 * u) j = μ (v + 36 + 3 * u) j) := by
  intro d
  induction d with
  | zero =>
    intro i μ n hi hn h h12 h14
    obtain ⟨n, rfl⟩ : ∃ m, n = m + 1 := ⟨n - 1, by omega⟩
    refine ⟨μ, ?_, fun _ _ => rfl, fun k h1 h2 => by omega⟩
    have e2 : i = 2 := by omega
    subst e2
    show X7_copyFrom_L120B _ w v (nI 2) μ = _
    unfold X7_copyFrom_L120B cpE
    have e1 : mset μ w 12 (nI T) w 12 = nI T := mset_self
    have e3 : mcpy (mset μ w 12 (nI T)) (v + 5) 0 (w + 5) 0 T v 14 = nI W := by rw [mcpy_ne (by omega), mset_row (by omega)]; exact h14
    rw [if_pos (by decide : (2 : Int32) ≤ nI 2), bnd_eq, h12, h14, e1, cpok_nI (n := T) hT hT (by omega), gd_t, bnd_eq, bnd_eq, clamp_nI (k := T) (by omega), z0, e3, mset_self, cpok_nI (n := W) hW hW (by omega), gd_t, bnd_eq, clamp_nI (k := W) (by omega), show cpok 0 0 6 6 6 = true from by decide, gd_t, bnd_eq, six_c]
  | succ d ih =>
    intro i μ n hi hn h h12 h14
    obtain ⟨n, rfl⟩ : ∃ m, n = m + 1 := ⟨n - 1, by omega⟩
    have hti := ht i (by omega)
    obtain ⟨μ1, e1, f1, g1, -, g2⟩ := take1 (d := w + 35 + 3 * i) (s := v + 36 + 3 * i) (n := t i) (N := 60) (by omega) (by omega) hti hti (by omega) μ
    obtain ⟨μ2, e2, f2, g⟩ := ih (i + 1) μ1 n (by omega) (by omega) (fun u hu => by rw [f1 _ (by omega) (by omega)]; exact h u hu) (by rw [f1 _ (by omega) (by omega)]; exact h12) (by rw [f1 _ (by omega) (by omega)]; exact h14)
    refine ⟨μ2, ?_, fun l hl => ?_, fun u h1 h2 => ?_⟩
    · show X7_copyFrom_L120B _ w v (nI i) μ = _
      unfold X7_copyFrom_L120B
      rw [if_neg (fun q => absurd ((lit_le (x := 2) 2 rfl (by omega) (by omega : i < 2 ^ 31)).mp q) (by omega)), inb_nI (by omega) (by omega), gd_t, gd_t, gd_t, clamp_nI (by omega), locE, locE, locF, h i (by omega), e1, cal_some, bnd_eq, nI_s]
      exact e2
    · rw [f2 l (by omega), f1 l (by omega) (by omega)]
    · by_cases e : u = i
      · subst e
        refine ⟨by rw [f2 _ (by omega), g1, h u (by omega)], fun j hj => ?_⟩
        rw [f2 _ (by omega)]
        have := g2 j hj
        rw [locF] at this
        exact this
      · have := g u (by omega) h2
        rw [f1 _ (by omega) (by omega), f1 _ (by omega) (by omega)] at this
        exact this
end CPL
theorem copy7 {w v : Nat} (hd : v + 41 ≤ w ∨ w + 41 ≤ v) {μ : Mem} {σ : Nat → Int32} (h : RepW μ v σ) (hI : Inv σ) : PW w μ (f_X7_copyFrom w v μ) 0 σ := by
  have h6 := hI.n6
  have h10 := hI.c10
  have h60 := hI.T60
  have h24 := hI.w24
  have e1 : mset μ w 1 (μ v 1) v = μ v := mset_row (by omega)
  have e2 : mset (mset μ w 1 (μ v 1)) w 2 (μ v 2) v = μ v := by rw [mset_row (by omega)]; exact e1
  have e3 : mset (mset (mset μ w 1 (μ v 1)) w 2 (μ v 2)) w 7 (μ v 7) v = μ v := by rw [mset_row (by omega)]; exact e2
  have e4 : mset (mset (mset (mset μ w 1 (μ v 1)) w 2 (μ v 2)) w 7 (μ v 7)) w 8 (μ v 8) v = μ v := by rw [mset_row (by omega)]; exact e3
  have e5 : mset (mset (mset (mset (mset μ w 1 (μ v 1)) w 2 (μ v 2)) w 7 (μ v 7)) w 8 (μ v 8)) w 9 (μ v 9) v = μ v := by rw [mset_row (by omega)]; exact e4
  generalize hm6 : mset (mset (mset (mset (mset (mset μ w 1 (μ v 1)) w 2 (μ v 2)) w 7 (μ v 7)) w 8 (μ v 8)) w 9 (μ v 9)) w 4 (μ v 4) = m6
  have fr6 : ∀ l, l ≠ w → m6 l = μ l := by
    intro l hl
    rw [← hm6, mset_row hl, mset_row hl, mset_row hl, mset_row hl, mset_row hl, mset_row hl]
  have v6 : m6 w 1 = μ v 1 ∧ m6 w 2 = μ v 2 ∧ m6 w 7 = μ v 7 ∧ m6 w 8 = μ v 8 ∧ m6 w 9 = μ v 9 ∧ m6 w 4 = μ v 4 := by
    rw [← hm6]
    refine ⟨?_, ?_, ?_, ?_, ?_, ?_⟩
    · rw [mset_ne (by omega), mset_ne (by omega), mset_ne (by omega), mset_ne (by omega), mset_ne (by omega), mset_self]
    · rw [mset_ne (by omega), mset_ne (by omega), mset_ne (by omega), mset_ne (by omega), mset_self]
    · rw [mset_ne (by omega), mset_ne (by omega), mset_ne (by omega), mset_self]
    · rw [mset_ne (by omega), mset_ne (by omega), mset_self]
    · rw [mset_ne (by omega), mset_self]
    · rw [mset_self]
  have hu : f_X7_copyFrom w v μ = X7_copyFrom_L50 FU w v (nI 0) m6 := by
    unfold f_X7_copyFrom
    rw [bnd_eq, bnd_eq, bnd_eq, bnd_eq, bnd_eq, bnd_eq, e1, e2, e3, e4, e5, hm6]
    rfl
  obtain ⟨m7, a7, f7, c7⟩ := cp50 hd h6 (nS σ) 0 m6 FU (by omega) (by rw [FU_eq]; omega) (by rw [v6.2.2.2.2.2, rd_n h]; exact hI.s0)
  have g7 : ∀ l, (l < w + 7 ∨ w + 25 ≤ l) → l ≠ w → m7 l = μ l := fun l h1 h2 => by rw [f7 l (by omega), fr6 l h2]
  have m7w : m7 w = m6 w := f7 w (by omega)
  have m7v6 : m7 v 6 = nI (nC σ) := by rw [g7 v (by omega) (by omega), rd_c h]; exact hI.s1
  obtain ⟨m8, a8, f8, c8⟩ := cp89 hd h10 (nC σ) 0 (mset m7 w 6 (m7 v 6)) FU (by omega) (by rw [FU_eq]; omega) (by rw [mset_self]; exact m7v6)
  have g8 : ∀ l, (l < w + 7 ∨ w + 35 ≤ l) → l ≠ w → m8 l = μ l := fun l h1 h2 => by rw [f8 l (by omega), mset_row h2, g7 l (by omega) h2]
  have ht : ∀ u, u < 2 → (σ (182 + 125 * u)).toNatClampNeg ≤ 60 := hI.t60
  obtain ⟨m9, a9, f9, c9⟩ := cp120 hd (t := fun u => (σ (182 + 125 * u)).toNatClampNeg) ht h60 h24 2 0 m8 FU (by omega) (by decide) (fun u hu => by
    rw [g8 _ (by omega) (by omega), (h.2.2 u hu).1]
    exact (rg_clamp (n := 60) (hI.tx hu) (by omega)).2) (by rw [g8 _ (by omega) (by omega), rd_taped h]; exact hI.s6) (by rw [g8 _ (by omega) (by omega), rd_waits h]; exact hI.s7)
  have g9 : ∀ l, (l < w + 7 ∨ w + 41 ≤ l) → l ≠ w → m9 l = μ l := fun l h1 h2 => by rw [f9 l (by omega), g8 l (by omega) h2]
  have m9w : ∀ f, f ≠ 6 → m9 w f = m6 w f := fun f hf => by rw [f9 w (by omega), f8 w (by omega), mset_ne (by omega), m7w]
  have m9w6 : m9 w 6 = μ v 6 := by rw [f9 w (by omega), f8 w (by omega), mset_self, g7 v (by omega) (by omega)]
  have m9v : m9 v = μ v := g9 v (by omega) (by omega)
  refine ⟨cpE w v m9 (nT σ) (nW σ), ?_, ?_, fun l hl => ?_⟩
  · rw [hu, a7]
    show X7_copyFrom_L89 FU w v (nI 0) _ = _
    rw [a8]
    exact a9
  · have oth : ∀ l, l ≠ w → l ≠ w + 1 → l ≠ w + 5 → l ≠ w + 6 → cpE w v m9 (nT σ) (nW σ) l = m9 l := fun l h1 h2 h3 h4 => by
      unfold cpE
      rw [mcpy_ne h2, mcpy_ne h4, mset_row h1, mcpy_ne h3, mset_row h1]
    refine Cp.rep h ⟨fun f hf => ?_, fun g hg => ?_, fun k hk => ⟨fun f hf => ?_, fun i hi => ?_, fun i hi => ?_⟩, fun c hc f hf => ?_, fun i hi => ?_, fun i hi => ?_, fun u hu => ⟨?_, fun i hi => ?_⟩⟩
    · have hw : cpE w v m9 (nT σ) (nW σ) w f = mset (mset m9 w 12 (m9 v 12)) w 14 (m9 v 14) w f := by
        unfold cpE
        rw [mcpy_ne (by omega), mcpy_ne (by omega)]
        by_cases e : f = 14
        · rw [e, mset_self, mset_self]
        · rw [mset_ne (by omega), mset_ne (by omega), mcpy_ne (by omega)]
      rw [hw]
      simp only [List.mem_cons, List.not_mem_nil, or_false] at hf
      rcases hf with rfl | rfl | rfl | rfl | rfl | rfl | rfl | rfl | rfl
      · rw [mset_ne (by omega), mset_ne (by omega), m9w _ (by omega)]; exact v6.1
      · rw [mset_ne (by omega), mset_ne (by omega), m9w _ (by omega)]; exact v6.2.1
      · rw [mset_ne (by omega), mset_ne (by omega), m9w _ (by omega)]; exact v6.2.2.2.2.2
      · rw [mset_ne (by omega), mset_ne (by omega)]; exact m9w6
      · rw [mset_ne (by omega), mset_ne (by omega), m9w _ (by omega)]; exact v6.2.2.1
      · rw [mset_ne (by omega), mset_ne (by omega), m9w _ (by omega)]; exact v6.2.2.2.1
      · rw [mset_ne (by omega), mset_ne (by omega), m9w _ (by omega)]; exact v6.2.2.2.2.1
      · rw [mset_ne (by omega), mset_self, m9v]
      · rw [mset_self, m9v]
    · unfold cpE
      rw [mcpy_at hg, mcpy_ne (by omega), mset_row (by omega), mcpy_ne (by omega), mset_row (by omega), g9 _ (by omega) (by omega)]
    · rw [oth _ (by omega) (by omega) (by omega) (by omega), f9 _ (by omega), f8 _ (by omega), mset_row (by omega), (c7 k (by omega) hk).1 f hf, fr6 _ (by omega)]
    · rw [oth _ (by omega) (by omega) (by omega) (by omega), f9 _ (by omega), f8 _ (by omega), mset_row (by omega), (c7 k (by omega) hk).2.1 i hi, fr6 _ (by omega)]
    · rw [oth _ (by omega) (by omega) (by omega) (by omega), f9 _ (by omega), f8 _ (by omega), mset_row (by omega), (c7 k (by omega) hk).2.2 i hi, fr6 _ (by omega)]
    · rw [oth _ (by omega) (by omega) (by omega) (by omega), f9 _ (by omega), c8 c (by omega) hc f hf, mset_row (by omega), g7 _ (by omega) (by omega)]
    · unfold cpE
      rw [mcpy_ne (by omega), mcpy_ne (by omega), mset_row (by omega), mcpy_at hi, mset_row (by omega), g9 _ (by omega) (by omega)]
    · unfold cpE
      rw [mcpy_ne (by omega), mcpy_at hi, mset_row (by omega), mcpy_ne (by omega), mset_row (by omega), g9 _ (by omega) (by omega)]
    · rw [oth _ (by omega) (by omega) (by omega) (by omega), (c9 u (by omega) hu).1, g8 _ (by omega) (by omega)]
    · rw [oth _ (by omega) (by omega) (by omega) (by omega), (c9 u (by omega) hu).2 i hi, g8 _ (by omega) (by omega)]
  · unfold cpE
    rw [mcpy_ne (by omega), mcpy_ne (by omega), mset_row (by omega), mcpy_ne (by omega), mset_row (by omega), g9 l (by omega) (by omega)]
/-- the model carries a row over -/
def crr (f g : Nat → Int32) : Nat → Int32 := fun j => if j < 516 then f j else g j
theorem carry2 {a b : Nat} (hab : a ≠ b) : ∀ d i (μ : Mem) n, i + d = 516 → d < n → X9_carry_L2 n a 516 b 516 (nI i) μ = some (0, sR μ b (fun j => if i ≤ j ∧ j < 516 then μ a j else μ b j)) := by
  intro d
  induction d with
  | zero =>
    intro i μ n hi hn
    obtain ⟨n, rfl⟩ : ∃ m, n = m + 1 := ⟨n - 1, by omega⟩
    show X9_carry_L2B _ a 516 b 516 (nI i) μ = _
    unfold X9_carry_L2B
    rw [if_pos ((lit_le (x := 516) 516 rfl (by omega) (by omega : i < 2 ^ 31)).mpr (by omega))]
    have : (fun j => if i ≤ j ∧ j < 516 then μ a j else μ b j) = μ b := funext (fun j => if_neg (by omega))
    rw [this, sR_id]
  | succ d ih =>
    intro i μ n hi hn
    obtain ⟨n, rfl⟩ : ∃ m, n = m + 1 := ⟨n - 1, by omega⟩
    show X9_carry_L2B _ a 516 b 516 (nI i) μ = _
    unfold X9_carry_L2B
    rw [if_neg (fun q => absurd ((lit_le (x := 516) 516 rfl (by omega) (by omega : i < 2 ^ 31)).mp q) (by omega)), inb_nI (by omega) (by omega), gd_t, gd_t, bnd_eq, bnd_eq, nI_s, clamp_nI (by omega), ih (i + 1) _ n (by omega) (by omega), mset_sR, sR_sR, sR_same, sR_ne hab]
    have hf : (fun j => if i + 1 ≤ j ∧ j < 516 then μ a j else upd (μ b) i (μ a i) j) = (fun j => if i ≤ j ∧ j < 516 then μ a j else μ b j) := by
      funext j
      by_cases e : j = i
      · rw [e, if_neg (by omega), if_pos (by omega), upd_same]
      · rw [upd_ne e]
        by_cases q : i ≤ j ∧ j < 516
        · rw [if_pos q, if_pos (by omega)]
        · rw [if_neg q, if_neg (by omega)]
    rw [hf]
theorem carry9 {a b : Nat} (hab : a ≠ b) (μ : Mem) : f_X9_carry a 516 b 516 μ = some (0, sR μ b (crr (μ a) (μ b))) := by
  have := carry2 hab 516 0 μ FU (by omega) (by decide)
  have hf : (fun j => if 0 ≤ j ∧ j < 516 then μ a j else μ b j) = crr (μ a) (μ b) := by
    funext j
    unfold crr
    by_cases q : j < 516
    · rw [if_pos q, if_pos ⟨Nat.zero_le j, q⟩]
    · rw [if_neg q, if_neg (fun x => q x.2)]
  rw [hf] at this
  exact this
