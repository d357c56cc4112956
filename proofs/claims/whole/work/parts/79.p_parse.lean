/-! PURE 44: the model reads as the class does: what is said of both -/
section
def lk (T : Nat → Int32) (N i : Nat) : Int32 := if i < N then T i else -1
def Run (T : Nat → Int32) (N u : Nat) (S : RS) (i : Nat) : Nat ⊕ List Int32 := flt T N u (N - i) i S
def MT (u : Nat) (σ : Nat → Int32) (m0 : Mem) (i o : Nat) (M : List (Int32 × Int32)) (μ : Mem) : Prop := μ 142 5 = nI i ∧ μ 142 6 = nI o ∧ μ 142 7 = nI M.length ∧ μ 142 8 = nI u ∧ pil2 (μ 147) M ∧ μ 143 = σ ∧ (∀ l, l ≠ 142 → l ≠ 147 → μ l = m0 l) ∧ ∀ f, f < 5 ∨ 8 < f → μ 142 f = m0 142 f
def MW (σ : Nat → Int32) (m0 : Mem) (i : Nat) (μ : Mem) : Prop := μ 142 5 = nI i ∧ μ 143 = σ ∧ (∀ l, l ≠ 142 → l ≠ 147 → μ l = m0 l) ∧ ∀ f, f < 5 ∨ 8 < f → μ 142 f = m0 142 f
theorem MT.w {u : Nat} {σ : Nat → Int32} {m0 : Mem} {i o : Nat} {M : List (Int32 × Int32)} {μ : Mem} (h : MT u σ m0 i o M μ) : MW σ m0 i μ := ⟨h.1, h.2.2.2.2.2.1, h.2.2.2.2.2.2.1, h.2.2.2.2.2.2.2⟩
def Fol (T : Nat → Int32) (N l i : Nat) (G : List Int32) (dg : Nat) : Prop := (((48 : Int32) ≤ lk T N i ∧ lk T N i ≤ 57) → dg = 0 ∨ dg = 4) ∧ ∀ k, l ≤ k → k ≤ 5 → lv (lk T N i) = k → k = 3 ∧ hd3 (relS 4 G []).1 = true
def Suc (T : Nat → Int32) (N u : Nat) (σ : Nat → Int32) (m0 : Mem) (l i o : Nat) (M : List (Int32 × Int32)) (G : List Int32) (μ' : Mem) : Prop := ∃ i' M' C P dg, MT u σ m0 i' o M' μ' ∧ emi P C = enc u M' ∧ (∀ p, p ∈ P → l ≤ bi p ∧ p ≠ 40) ∧ M'.length + G.length ≤ i' ∧ i < i' ∧ i' ≤ N ∧ MOk u M' ∧ hM M' = hM M + 1 ∧ Run T N u (enc u M, G, true, 0) i = Run T N u (C, P ++ G, false, dg) i' ∧ Fol T N l i' (P ++ G) dg
def Fai (T : Nat → Int32) (N u : Nat) (σ : Nat → Int32) (m0 : Mem) (i : Nat) (M : List (Int32 × Int32)) (G : List Int32) (μ' : Mem) : Prop := ∃ i', MW σ m0 i' μ' ∧ i' ≤ N ∧ Run T N u (enc u M, G, true, 0) i = Sum.inl i'
def Con (T : Nat → Int32) (N u : Nat) (σ : Nat → Int32) (m0 : Mem) (l k : Nat) (F : Mem → Res) : Prop := ∀ (i o : Nat) (M : List (Int32 × Int32)) (G : List Int32) (μ : Mem), k ≤ o → o ≤ 5 → cnt G = o → M.length + G.length ≤ i → i ≤ N → MOk u M → 0 ≤ hM M → (l ≤ 5 → stopG l G) → MT u σ m0 i o M μ → ∃ μ', (F μ = some (1, μ') ∧ Suc T N u σ m0 l i o M G μ') ∨ (F μ = some (0, μ') ∧ Fai T N u σ m0 i M G μ')
section PARSE
variable {T : Nat → Int32} {N u : Nat} {σ : Nat → Int32} {m0 : Mem}
theorem run_s {S : RS} {i : Nat} (hi : i < N) : Run T N u S i = (match tk u S (T i) with
    | none => Sum.inl i
    | some S' => Run T N u S' (i + 1)) := by
  unfold Run
  obtain ⟨d, hd⟩ : ∃ d, N - i = d + 1 := ⟨N - i - 1, by omega⟩
  have hd' : N - (i + 1) = d := by omega
  rw [hd, hd']
  rfl
theorem run_none {S : RS} {i : Nat} (hi : i < N) (h : tk u S (T i) = none) : Run T N u S i = Sum.inl i := by rw [run_s hi, h]
theorem run_some {S S' : RS} {i : Nat} (hi : i < N) (h : tk u S (T i) = some S') : Run T N u S i = Run T N u S' (i + 1) := by rw [run_s hi, h]
theorem run_end (S : RS) : Run T N u S N = if S.2.2.1 = true ∨ 0 < cbr S.2.1 then Sum.inl N else Sum.inr (relS 1 S.2.1 S.1).2 := by
  unfold Run
  rw [Nat.sub_self]
  rfl
theorem lk_lt {i : Nat} (h : i < N) : lk T N i = T i := if_pos h
theorem lk_n {i : Nat} (h : ¬ i < N) : lk T N i = -1 := if_neg h
theorem lv_m1 : lv (-1) = 0 := by decide
theorem lv_in {i : Nat} (h : 1 ≤ lv (lk T N i)) : i < N := by
  rcases Nat.lt_or_ge i N with q | q
  · exact q
  · rw [lk_n (by omega), lv_m1] at h
    omega
/-- which signs -/
theorem lv_sg {b : Int32} (h : 1 ≤ lv b) : isSg b := by
  unfold lv at h
  unfold isSg
  split at h
  · rename_i e; exact Or.inl e
  split at h
  · rename_i e; exact Or.inr (Or.inl e)
  split at h
  · rename_i e; rcases e with e | e | e <;> simp [e]
  split at h
  · rename_i e; rcases e with e | e <;> simp [e]
  split at h
  · rename_i e; rcases e with e | e | e <;> simp [e]
  · omega
theorem sg_facts {b : Int32} (h : isSg b) : ¬ ((48 : Int32) ≤ b ∧ b ≤ 57) ∧ b ≠ 41 ∧ b ≠ 33 ∧ b ≠ 40 ∧ bi b = lv b ∧ (¬ b = 33 ∧ ¬ b = 40) := by
  rcases h with rfl | rfl | rfl | rfl | rfl | rfl | rfl | rfl | rfl | rfl <;> decide
theorem lv1_iff (b : Int32) : lv b = 1 ↔ b = 124 := by
  constructor
  · intro h
    rcases lv_sg (b := b) (by omega) with rfl | rfl | rfl | rfl | rfl | rfl | rfl | rfl | rfl | rfl <;> first | rfl | (exact absurd h (by decide))
  · intro h; rw [h]; decide
theorem lv2_iff (b : Int32) : lv b = 2 ↔ b = 38 := by
  constructor
  · intro h
    rcases lv_sg (b := b) (by omega) with rfl | rfl | rfl | rfl | rfl | rfl | rfl | rfl | rfl | rfl <;> first | rfl | (exact absurd h (by decide))
  · intro h; rw [h]; decide
theorem lv3_iff (b : Int32) : lv b = 3 ↔ (b = 60 ∨ b = 61 ∨ b = 62) := by
  constructor
  · intro h
    rcases lv_sg (b := b) (by omega) with rfl | rfl | rfl | rfl | rfl | rfl | rfl | rfl | rfl | rfl <;> first | decide | (exact absurd h (by decide))
  · rintro (h | h | h) <;> rw [h] <;> decide
theorem lv4_iff (b : Int32) : lv b = 4 ↔ (b = 43 ∨ b = 45) := by
  constructor
  · intro h
    rcases lv_sg (b := b) (by omega) with rfl | rfl | rfl | rfl | rfl | rfl | rfl | rfl | rfl | rfl <;> first | decide | (exact absurd h (by decide))
  · rintro (h | h) <;> rw [h] <;> decide
theorem lv5_iff (b : Int32) : lv b = 5 ↔ (b = 42 ∨ b = 47 ∨ b = 37) := by
  constructor
  · intro h
    rcases lv_sg (b := b) (by omega) with rfl | rfl | rfl | rfl | rfl | rfl | rfl | rfl | rfl | rfl <;> first | decide | (exact absurd h (by decide))
  · rintro (h | h | h) <;> rw [h] <;> decide
/-- a sign is taken -/
theorem tk_sign {C P G : List Int32} {dg l : Nat} {b : Int32} (hb : lv b = l) (hl : 1 ≤ l) (hP : ∀ p, p ∈ P → (if l = 3 then 4 else l) ≤ bi p) (hG : stopG l G) : tk u (C, P ++ G, false, dg) b = some (emi P C, b :: G, true, 0) := by
  obtain ⟨s1, s2, s3, s4, s5, s6⟩ := sg_facts (lv_sg (b := b) (by omega))
  have hst : stopG (if l = 3 then 4 else l) G := by
    split
    · exact stop_up (by omega) hG
    · exact hG
  have hr := relS_app hst P C hP
  have h4 : ¬ (lv b = 3 ∧ hd3 (relS 4 (P ++ G) C).1 = true) := by
    rintro ⟨w1, w2⟩
    have e : l = 3 := by omega
    rw [if_pos e] at hr
    rw [hr] at w2
    cases G with
    | nil => exact absurd w2 Bool.false_ne_true
    | cons g G =>
      have hlt : bi g < l := hG
      have w3 : lv g = 3 := of_decide_eq_true w2
      have : bi g = 6 ∨ bi g = lv g := by
        unfold bi
        split
        · exact Or.inl rfl
        · exact Or.inr rfl
      omega
  unfold tk
  rw [if_neg s1, if_neg (show ¬ ((C, P ++ G, false, dg) : RS).2.2.1 = true from Bool.false_ne_true), if_neg s2, if_neg (show ¬ lv b = 0 by omega)]
  have h4' : ¬ (lv b = 3 ∧ hd3 (relS 4 ((C, P ++ G, false, dg) : RS).2.1 ((C, P ++ G, false, dg) : RS).1).1 = true) := h4
  rw [if_neg h4', hb]
  show some ((relS (if l = 3 then 4 else l) (P ++ G) C).2, b :: (relS (if l = 3 then 4 else l) (P ++ G) C).1, true, 0) = _
  rw [hr]
theorem look9 (hN : N ≤ 60) (hs6 : σ 6 = nI N) (hsT : ∀ j, j < N → σ (432 + j) = T j) {i : Nat} (hi : i ≤ N) {μ : Mem} (h5 : μ 142 5 = nI i) (h143 : μ 143 = σ) : f_X9_look 142 μ = some (lk T N i, μ) := by
  unfold f_X9_look X9_look_J31
  rw [show inb (6 : Int32) 516 = true from by decide, gd_t, ix143 h143, show (6 : Int32).toNatClampNeg = 6 from by decide, h5, hs6]
  by_cases q : i < N
  · have e : (432 : Int32) + nI i = nI (432 + i) := nI_add 432 i
    rw [if_neg (fun w => absurd ((nI_leq (by omega) (by omega)).mp w) (by omega)), e, inb_nI (by omega) (by omega), gd_t, clamp_nI (by omega), show (142 + 1 : Nat) = 143 from rfl, h143, hsT i q, lk_lt q]
  · rw [if_pos ((nI_leq (by omega) (by omega)).mpr (by omega)), lk_n q]
theorem isName9 (hu : u < 2) {μ : Mem} (h : μ 142 8 = nI u) (b : Int32) : f_X9_isName 142 b μ = some (b2 ((0 : Int32) ≤ sidx (nI u) b), μ) := by
  unfold f_X9_isName X9_isName_J33 X9_isName_J59 X9_isName_J64
  rw [h]
  have e0 : isb (0 : Int32) = true := rfl
  have e1 : isb (1 : Int32) = true := rfl
  rw [e0, e1]
  simp only [gd_t]
  rcases (show u = 0 ∨ u = 1 by omega) with rfl | rfl
  · rw [if_pos (show nI 0 = 0 from rfl), sidx0]
    by_cases c1 : b = 109
    · subst c1; rfl
    by_cases c2 : b = 107
    · subst c2; rfl
    by_cases c3 : b = 108
    · subst c3; rfl
    by_cases c4 : b = 103
    · subst c4; rfl
    rw [if_neg c1, if_neg c2, if_neg c3, if_neg c4, if_neg (fun q => c2 q.symm), if_neg (fun q => c3 q.symm), if_neg (fun q => c4 q.symm), if_neg (fun q => c1 q.symm)]
    rfl
  · rw [if_neg (show ¬ nI 1 = 0 from by decide), sidx1]
    by_cases c1 : b = 109
    · subst c1; rfl
    by_cases c2 : b = 99
    · subst c2; rfl
    by_cases c3 : b = 115
    · subst c3; rfl
    by_cases c4 : b = 100
    · subst c4; rfl
    rw [if_neg c1, if_neg c2, if_neg c3, if_neg c4, if_neg (fun q => c2 q.symm), if_neg (fun q => c3 q.symm), if_neg (fun q => c4 q.symm), if_neg (fun q => c1 q.symm)]
    rfl
theorem layT {i o : Nat} {M : List (Int32 × Int32)} {μ : Mem} (h : MT u σ m0 i o M μ) (hM : M.length ≤ 60) (a b : Int32) : ∃ μ', f_X9_lays 142 a b μ = some (0, μ') ∧ MT u σ m0 i o ((a, b) :: M) μ' := by
  obtain ⟨h1, h2, h3, h4, h5, h6, h7, h8⟩ := h
  refine ⟨mset (mset (mset μ 147 (2 * M.length) a) 147 (2 * M.length + 1) b) 142 7 (nI (M.length + 1)), ?_, ?_, ?_, mset_self, ?_, ⟨?_, ?_, ?_⟩, ?_, fun l x y => ?_, fun f hf => ?_⟩
  · unfold f_X9_lays
    have e7 : mset μ (142 + 5) (2 * M.length) a 142 7 = nI M.length := by rw [mset_row (by omega)]; exact h3
    have e8 : mset (mset μ (142 + 5) (2 * M.length) a) (142 + 5) (2 * M.length + 1) b 142 7 = nI M.length := by rw [mset_row (by omega)]; exact e7
    rw [h3, mu_2, inb_nI (by omega) (by omega), gd_t, bnd_eq, clamp_nI (by omega), e7, mu_2, nI_s, inb_nI (by omega) (by omega), gd_t, bnd_eq, clamp_nI (by omega), bnd_eq, e8, nI_s]
  · rw [mset_ne (by omega), mset_row (by omega), mset_row (by omega)]; exact h1
  · rw [mset_ne (by omega), mset_row (by omega), mset_row (by omega)]; exact h2
  · rw [mset_ne (by omega), mset_row (by omega), mset_row (by omega)]; exact h4
  · rw [mset_row (by omega), mset_ne (by omega), mset_self]
  · rw [mset_row (by omega), mset_self]
  · refine pil2_eq M (fun j hj => ?_) h5
    rw [mset_row (by omega), mset_ne (by omega), mset_ne (by omega)]
  · rw [mset_row (by omega), mset_row (by omega), mset_row (by omega)]; exact h6
  · rw [mset_row x, mset_row y, mset_row y]; exact h7 l x y
  · rw [mset_ne (by omega), mset_row (by omega), mset_row (by omega)]; exact h8 f hf
theorem MT.adv {i o : Nat} {M : List (Int32 × Int32)} {μ : Mem} (h : MT u σ m0 i o M μ) : MT u σ m0 (i + 1) o M (mset μ 142 5 (nI (i + 1))) := by
  obtain ⟨h1, h2, h3, h4, h5, h6, h7, h8⟩ := h
  exact ⟨mset_self, by rw [mset_ne (by omega)]; exact h2, by rw [mset_ne (by omega)]; exact h3, by rw [mset_ne (by omega)]; exact h4, by rw [mset_row (by omega)]; exact h5, by rw [mset_row (by omega)]; exact h6, fun l x y => by rw [mset_row x]; exact h7 l x y, fun f hf => by rw [mset_ne (by omega)]; exact h8 f hf⟩
theorem MT.opn {i o o' : Nat} {M : List (Int32 × Int32)} {μ : Mem} (h : MT u σ m0 i o M μ) : MT u σ m0 i o' M (mset μ 142 6 (nI o')) := by
  obtain ⟨h1, h2, h3, h4, h5, h6, h7, h8⟩ := h
  exact ⟨by rw [mset_ne (by omega)]; exact h1, mset_self, by rw [mset_ne (by omega)]; exact h3, by rw [mset_ne (by omega)]; exact h4, by rw [mset_row (by omega)]; exact h5, by rw [mset_row (by omega)]; exact h6, fun l x y => by rw [mset_row x]; exact h7 l x y, fun f hf => by rw [mset_ne (by omega)]; exact h8 f hf⟩
theorem encS3 {b : Int32} : encS (nI u) 3 b = -b := rfl
theorem step_sign {b : Int32} (hb : isSg b) {M : List (Int32 × Int32)} (h : MOk u M) {h0 : Int} (hh : hM M = h0 + 2) (h1 : 0 ≤ h0) : MOk u ((3, b) :: M) ∧ hM ((3, b) :: M) = h0 + 1 := by
  have e : hM ((3, b) :: M) = h0 + 1 := by
    show hM M + (if (3 : Int32) = 0 ∨ (3 : Int32) = 1 then 1 else if (3 : Int32) = 2 then 0 else -1) = _
    rw [if_neg (by decide), if_neg (by decide)]
    omega
  refine ⟨⟨h, Or.inr (Or.inr (Or.inr ⟨rfl, hb⟩)), by omega, fun q => absurd (show (3 : Int32) = 2 from q) (by decide), fun _ => by omega⟩, e⟩
/-- one behind the other, signs of one level between them -/
theorem loopC (hN : N ≤ 60) {l k : Nat} (hl : l = 1 ∨ l = 2 ∨ l = 4 ∨ l = 5) {F : Mem → Res} (hF : Con T N u σ m0 (l + 1) k F) {L : Nat → Mem → Res} (hL : ∀ n i o M μ, MT u σ m0 i o M μ → i ≤ N → L (n + 1) μ = if lv (lk T N i) = l then cal (F (mset μ 142 5 (nI (i + 1)))) (fun r m => if r = 0 then some (0, m) else cal (f_X9_lays 142 3 (lk T N i) m) (fun _ m2 => L n m2)) else some (1, μ)) {i0 : Nat} {M0 : List (Int32 × Int32)} (hM0 : 0 ≤ hM M0) {G : List Int32} {o : Nat} (hko : k ≤ o) (ho : o ≤ 5) (hcnt : cnt G = o) (hst : stopG l G) : ∀ n i M C P dg (μ : Mem), N - i < n → i0 < i → i ≤ N → MT u σ m0 i o M μ → emi P C = enc u M → (∀ p, p ∈ P → l ≤ bi p ∧ p ≠ 40) → M.length + G.length ≤ i → MOk u M → hM M = hM M0 + 1 → Run T N u (enc u M0, G, true, 0) i0 = Run T N u (C, P ++ G, false, dg) i → Fol T N (l + 1) i (P ++ G) dg → ∃ μ', (L n μ = some (1, μ') ∧ Suc T N u σ m0 l i0 o M0 G μ') ∨ (L n μ = some (0, μ') ∧ Fai T N u σ m0 i0 M0 G μ') := by
  intro n
  induction n with
  | zero => intro i M C P dg μ h; omega
  | succ n ih =>
    intro i M C P dg μ hn hi0 hiN hMT hemi hP hlen hMO hh hrun hfol
    have hLs := hL n i o M μ hMT hiN
    by_cases c : lv (lk T N i) = l
    · have hin : i < N := lv_in (T := T) (by omega)
      have hb : lk T N i = T i := lk_lt hin
      rw [hb] at c
      have hsg := lv_sg (b := T i) (by omega)
      obtain ⟨s1, s2, s3, s4, s5, s6⟩ := sg_facts hsg
      have htk := tk_sign (u := u) (C := C) (P := P) (G := G) (dg := dg) (l := l) c (by omega) (fun p hp => by rw [if_neg (by omega)]; exact (hP p hp).1) hst
      have hrun2 := hrun.trans (run_some hin htk)
      rw [hemi] at hrun2
      have hcn : cnt (T i :: G) = o := by
        show cnt G + (if T i = 33 ∨ T i = 40 then 1 else 0) = o
        rw [if_neg (by rintro (w | w); exact s3 w; exact s4 w), hcnt]
        rfl
      rw [hb, if_pos c] at hLs
      rcases hF (i + 1) o M (T i :: G) _ hko ho hcn (by rw [List.length_cons]; omega) (by omega) hMO (by omega) (fun _ => by show bi (T i) < l + 1; omega) hMT.adv with ⟨m1, ⟨a1, i', M', C', P', dg', b1, b2', b3, b4, b5, b6, b7, b8, b9, b10⟩ | ⟨a1, i', b1, b2', b3⟩⟩
      · rw [List.length_cons] at b4
        obtain ⟨m2, d1, d2⟩ := layT b1 (by omega) 3 (T i)
        obtain ⟨e1, e2⟩ := step_sign hsg b7 (h0 := hM M0) (by omega) hM0
        have happ : P' ++ T i :: G = (P' ++ [T i]) ++ G := by rw [List.append_assoc]; rfl
        rw [happ] at b9 b10
        obtain ⟨m3, f1⟩ := ih i' ((3, T i) :: M') C' (P' ++ [T i]) dg' m2 (by omega) (by omega) b6 d2 (by
          rw [emi_app, b2']
          rfl) (fun p hp => by
            rcases List.mem_append.mp hp with w | w
            · exact ⟨by have := (b3 p w).1; omega, (b3 p w).2⟩
            · have : p = T i := by simpa using w
              rw [this]
              exact ⟨by omega, s4⟩) (by rw [List.length_cons]; omega) e1 e2 (hrun2.trans b9) b10
        refine ⟨m3, ?_⟩
        rw [hLs, a1, cal_some, if_neg (by decide), d1, cal_some]
        exact f1
      · refine ⟨m1, Or.inr ⟨?_, i', b1, b2', hrun2.trans b3⟩⟩
        rw [hLs, a1, cal_some, if_pos rfl]
    · rw [if_neg c] at hLs
      refine ⟨μ, Or.inl ⟨hLs, i, M, C, P, dg, hMT, hemi, hP, hlen, hi0, hiN, hMO, hh, hrun, hfol.1, fun k' h1 h2 h3 => ?_⟩⟩
      by_cases e : k' = l
      · exact absurd (h3.trans e) c
      · exact hfol.2 k' (by omega) h2 h3
/-- a nonterminal: one, then the loop -/
theorem levC (hN : N ≤ 60) {l k : Nat} (hl : l = 1 ∨ l = 2 ∨ l = 4 ∨ l = 5) {F : Mem → Res} (hF : Con T N u σ m0 (l + 1) k F) {L : Nat → Mem → Res} (hL : ∀ n i o M μ, MT u σ m0 i o M μ → i ≤ N → L (n + 1) μ = if lv (lk T N i) = l then cal (F (mset μ 142 5 (nI (i + 1)))) (fun r m => if r = 0 then some (0, m) else cal (f_X9_lays 142 3 (lk T N i) m) (fun _ m2 => L n m2)) else some (1, μ)) : Con T N u σ m0 l k (fun μ => cal (F μ) (fun r m => if r = 0 then some (0, m) else L FU m)) := by
  intro i o M G μ hko ho hcnt hlen hiN hMO hh hst hMT
  have hst' := hst (by omega)
  rcases hF i o M G μ hko ho hcnt hlen hiN hMO hh (fun _ => stop_up (by omega) hst') hMT with ⟨m1, ⟨a1, i', M', C', P', dg', b1, b2', b3, b4, b5, b6, b7, b8, b9, b10⟩ | ⟨a1, i', b1, b2', b3⟩⟩
  · obtain ⟨m2, f1⟩ := loopC hN hl hF hL hh hko ho hcnt hst' FU i' M' C' P' dg' m1 (by rw [FU_eq]; omega) b5 b6 b1 b2' (fun p hp => ⟨by have := (b3 p hp).1; omega, (b3 p hp).2⟩) b4 b7 b8 b9 b10
    refine ⟨m2, ?_⟩
    show (cal (F μ) (fun r m => if r = 0 then some (0, m) else L FU m) = _ ∧ _) ∨ (cal (F μ) (fun r m => if r = 0 then some (0, m) else L FU m) = _ ∧ _)
    rw [a1, cal_some, if_neg (by decide)]
    exact f1
  · refine ⟨m1, Or.inr ⟨?_, i', b1, b2', b3⟩⟩
    show cal (F μ) (fun r m => if r = 0 then some (0, m) else L FU m) = _
    rw [a1, cal_some, if_pos rfl]
end PARSE
end
