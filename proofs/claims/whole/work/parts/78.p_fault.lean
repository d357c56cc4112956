/-! PURE 43: all bytes; the model's steps -/
section
def flt (T : Nat → Int32) (N u : Nat) : Nat → Nat → RS → Nat ⊕ List Int32
  | 0, _, S => if S.2.2.1 = true ∨ 0 < cbr S.2.1 then Sum.inl N else Sum.inr (relS 1 S.2.1 S.1).2
  | d + 1, i, S => match tk u S (T i) with
    | none => Sum.inl i
    | some S' => flt T N u d (i + 1) S'
theorem tk_len {u : Nat} {S S' : RS} {b : Int32} (h : tk u S b = some S') : S'.1.length + S'.2.1.length ≤ S.1.length + S.2.1.length + 1 := by
  obtain ⟨C, G, due, dg⟩ := S
  unfold tk at h
  split at h
  · split at h
    · cases h
      show (C.length + 1) + G.length ≤ C.length + G.length + 1
      omega
    · split at h
      · cases h
      · cases C with
        | nil => cases h
        | cons c C =>
          cases h
          show (C.length + 1) + G.length ≤ (C.length + 1) + G.length + 1
          omega
  · split at h
    · split at h
      · split at h
        · cases h
        · cases h
          show C.length + (G.length + 1) ≤ C.length + G.length + 1
          omega
      · split at h
        · cases h
          show (C.length + 1) + G.length ≤ C.length + G.length + 1
          omega
        · cases h
    · split at h
      · split at h
        · cases h
        · cases h
          have := relS_len 1 G C
          have h2 : (relS 1 G C).1.tail.length ≤ (relS 1 G C).1.length := by
            rw [List.length_tail]
            omega
          show (relS 1 G C).2.length + (relS 1 G C).1.tail.length ≤ C.length + G.length + 1
          omega
      · split at h
        · cases h
        · split at h
          · cases h
          · cases h
            have := relS_len (if lv b = 3 then 4 else lv b) G C
            show (relS (if lv b = 3 then 4 else lv b) G C).2.length + ((relS (if lv b = 3 then 4 else lv b) G C).1.length + 1) ≤ C.length + G.length + 1
            omega
def fR (r : Nat ⊕ List Int32) : Int32 := match r with
  | Sum.inl p => nI p
  | Sum.inr _ => -1
theorem fault48 {u N : Nat} {T : Nat → Int32} (hN : N ≤ 60) (hT : ∀ j, j < N → rg (T j) 0 255) : ∀ d i (μ : Mem) (S : RS) n, i + d = N → d < n → RSm u μ S → S.1.length + S.2.1.length ≤ i → (∀ j, j < N → μ (1 + 5) j = T j) → ∃ μ', X2_faultIn_L48 n 125 (1 + 5) 60 (nI N) (nI i) μ = some (fR (flt T N u d i S), μ') ∧ FrR μ μ' ∧ ∀ C, flt T N u d i S = Sum.inr C → μ' 125 1 = nI C.length ∧ pil (μ' 126) C ∧ C.length ≤ N := by
  intro d
  induction d with
  | zero =>
    intro i μ S n hi hn h hb ht
    obtain ⟨n, rfl⟩ : ∃ m, n = m + 1 := ⟨n - 1, by omega⟩
    obtain ⟨C, G, due, dg⟩ := S
    obtain ⟨h1, h2, h3, h4, h5, h6, h7, h8, h9, hG, hdg⟩ := h
    have h1 : μ 125 1 = nI C.length := h1
    have h2 : pil (μ 126) C := h2
    have h3 : μ 125 3 = nI G.length := h3
    have h4 : pil (μ 127) G := h4
    have h5 : μ 125 4 = nI (cnt G) := h5
    have h6 : μ 125 5 = nI (cbr G) := h6
    have hb : C.length + G.length ≤ i := hb
    have hc := cnt_le G
    have hh : X2_faultIn_L48 (n + 1) 125 (1 + 5) 60 (nI N) (nI i) μ = (if μ 125 6 = 0 then (if μ 125 5 ≤ 0 then cal (f_X2_release 125 1 μ) (fun r1 m2 => some (-1, m2)) else some (nI N, μ)) else some (nI N, μ)) := by
      show X2_faultIn_L48B _ 125 (1 + 5) 60 (nI N) (nI i) μ = _
      unfold X2_faultIn_L48B X2_faultIn_J88
      rw [if_pos ((nI_leq (by omega) (by omega)).mpr (by omega))]
    have hf : flt T N u 0 i (C, G, due, dg) = if due = true ∨ 0 < cbr G then Sum.inl N else Sum.inr (relS 1 G C).2 := rfl
    rw [hh, hf, h6]
    cases due with
    | true =>
      have h7' : μ 125 6 = 1 := h7
      rw [if_pos (Or.inl rfl), h7', if_neg (by decide)]
      exact ⟨μ, rfl, FrR.rf _, fun C hC => by cases hC⟩
    | false =>
      have h7' : μ 125 6 = 0 := h7
      rw [h7', if_pos rfl]
      by_cases q : cbr G = 0
      · obtain ⟨m4, a1, a2, a3, a4, a5, a6, a7, a8⟩ := release2 (l := 1) (by omega) (by omega) (x := 1) rfl (by omega) h1 h2 h3 h4 h5
        have hlen := relS_len 1 G C
        rw [if_pos ((nI_le0 (by omega)).mpr q), if_neg (by rintro (w | w); exact Bool.false_ne_true w; omega), a1, cal_some]
        refine ⟨m4, rfl, fun l x y _ => a8 l x y, fun C' hC => ?_⟩
        cases hC
        exact ⟨a2, a3, by omega⟩
      · rw [if_neg (fun w => q ((nI_le0 (by omega)).mp w)), if_pos (Or.inr (by omega))]
        exact ⟨μ, rfl, FrR.rf _, fun C hC => by cases hC⟩
  | succ d ih =>
    intro i μ S n hi hn h hb ht
    obtain ⟨n, rfl⟩ : ∃ m, n = m + 1 := ⟨n - 1, by omega⟩
    have hh : X2_faultIn_L48 (n + 1) 125 (1 + 5) 60 (nI N) (nI i) μ = cal (f_X2_takes 125 (T i) μ) (fun r3 m4 => (if r3 = 0 then some (nI i, m4) else X2_faultIn_L48 n 125 (1 + 5) 60 (nI N) (nI (i + 1)) m4)) := by
      show X2_faultIn_L48B _ 125 (1 + 5) 60 (nI N) (nI i) μ = _
      unfold X2_faultIn_L48B
      rw [if_neg (fun q => absurd ((nI_leq (by omega) (by omega)).mp q) (by omega)), inb_nI (by omega) (by omega), gd_t, clamp_nI (by omega), ht i (by omega)]
      simp only [bnd_eq, nI_s]
    have hf : flt T N u (d + 1) i S = (match tk u S (T i) with
      | none => Sum.inl i
      | some S' => flt T N u d (i + 1) S') := rfl
    rw [hh, hf]
    rcases takes2 h (by omega) (hT i (by omega)) with ⟨e, m1, a1, a2⟩ | ⟨S', m1, e, a1, a2, a3⟩
    · rw [e, a1, cal_some, if_pos rfl]
      exact ⟨m1, rfl, a2, fun C hC => by cases hC⟩
    · have hl := tk_len e
      obtain ⟨m2, b1, b2, b3⟩ := ih (i + 1) m1 S' n (by omega) (by omega) a2 (by omega) (fun j hj => by rw [a3 _ (by omega) (by omega) (by omega)]; exact ht j hj)
      rw [e, a1, cal_some, if_neg (by decide)]
      exact ⟨m2, b1, a3.tr b2, b3⟩
theorem faultIn2 {u N : Nat} (hu : u < 2) {T : Nat → Int32} (hN : N ≤ 60) (hT : ∀ j, j < N → rg (T j) 0 255) {μ : Mem} (ht : ∀ j, j < N → μ (1 + 5) j = T j) : ∃ μ', f_X2_faultIn 125 (1 + 5) 60 (nI N) (nI u) μ = some (fR (flt T N u N 0 ([], [], true, 0)), μ') ∧ FrR μ μ' ∧ ∀ C, flt T N u N 0 ([], [], true, 0) = Sum.inr C → μ' 125 1 = nI C.length ∧ pil (μ' 126) C ∧ C.length ≤ N := by
  obtain ⟨m8, hm8⟩ : ∃ m8, m8 = mset (mset (mset (mset (mset (mset (mset μ 125 1 0) 125 3 0) 125 4 0) 125 5 0) 125 6 1) 125 7 0) 125 8 (nI u) := ⟨_, rfl⟩
  have hR : RSm u m8 ([], [], true, 0) := by
    rw [hm8]
    refine ⟨?_, fun j hj => absurd hj (by simp), ?_, fun j hj => absurd hj (by simp), ?_, ?_, ?_, ?_, mset_self, fun g hg => absurd hg (by simp), by show 0 ≤ 4; omega⟩
    · rw [mset_ne (by omega), mset_ne (by omega), mset_ne (by omega), mset_ne (by omega), mset_ne (by omega), mset_ne (by omega), mset_self]; rfl
    · rw [mset_ne (by omega), mset_ne (by omega), mset_ne (by omega), mset_ne (by omega), mset_ne (by omega), mset_self]; rfl
    · rw [mset_ne (by omega), mset_ne (by omega), mset_ne (by omega), mset_ne (by omega), mset_self]; rfl
    · rw [mset_ne (by omega), mset_ne (by omega), mset_ne (by omega), mset_self]; rfl
    · rw [mset_ne (by omega), mset_ne (by omega), mset_self]; rfl
    · rw [mset_ne (by omega), mset_self]; rfl
  have fr : FrR μ m8 := fun l x _ _ => by rw [hm8, mset_row x, mset_row x, mset_row x, mset_row x, mset_row x, mset_row x, mset_row x]
  obtain ⟨m9, a1, a2, a3⟩ := fault48 (u := u) hN hT N 0 m8 ([], [], true, 0) FU (by omega) (by rw [FU_eq]; omega) hR (by simp) (fun j hj => by rw [fr _ (by omega) (by omega) (by omega)]; exact ht j hj)
  refine ⟨m9, ?_, fr.tr a2, a3⟩
  unfold f_X2_faultIn
  rw [bnd_eq, bnd_eq, bnd_eq, bnd_eq, show isb (1 : Int32) = true from rfl, gd_t, bnd_eq, bnd_eq]
  rcases (show u = 0 ∨ u = 1 by omega) with rfl | rfl
  · rw [if_pos (by decide), bnd_eq]
    rw [hm8] at a1
    exact a1
  · rw [if_neg (by decide), bnd_eq]
    rw [hm8] at a1
    exact a1
/-- the model's steps, the last first -/
def pil2 (f : Nat → Int32) : List (Int32 × Int32) → Prop
  | [] => True
  | p :: R => f (2 * R.length) = p.1 ∧ f (2 * R.length + 1) = p.2 ∧ pil2 f R
theorem pil2_eq {f f' : Nat → Int32} : ∀ (M : List (Int32 × Int32)), (∀ j, j < 2 * M.length → f' j = f j) → pil2 f M → pil2 f' M := by
  intro M
  induction M with
  | nil => intro _ _; exact True.intro
  | cons p R ih =>
    intro h hp
    rw [List.length_cons] at h
    exact ⟨(h _ (by omega)).trans hp.1, (h _ (by omega)).trans hp.2.1, ih (fun j hj => h j (by omega)) hp.2.2⟩
def enc (u : Nat) (M : List (Int32 × Int32)) : List Int32 := M.map (fun p => encS (nI u) p.1 p.2)
def hM : List (Int32 × Int32) → Int
  | [] => 0
  | p :: R => hM R + (if p.1 = 0 ∨ p.1 = 1 then 1 else if p.1 = 2 then 0 else -1)
def MOk (u : Nat) : List (Int32 × Int32) → Prop
  | [] => True
  | p :: R => MOk u R ∧ StepOk u p.1 p.2 ∧ 1 ≤ hM (p :: R) ∧ (p.1 = 2 → 1 ≤ hM R) ∧ (p.1 = 3 → 2 ≤ hM R)
/-- what was worked out is what was laid -/
theorem enc_at {u : Nat} {f g : Nat → Int32} : ∀ (M : List (Int32 × Int32)), pil f (enc u M) → pil2 g M → ∀ j, j < M.length → f j = encS (nI u) (g (2 * j)) (g (2 * j + 1)) := by
  intro M
  induction M with
  | nil => intro _ _ j hj; exact absurd hj (by simp)
  | cons p R ih =>
    intro h1 h2 j hj
    rw [List.length_cons] at hj
    have h1' : pil f (encS (nI u) p.1 p.2 :: enc u R) := h1
    by_cases e : j = R.length
    · have ht := pil_top h1'
      have hl : (enc u R).length = R.length := by unfold enc; rw [List.length_map]
      rw [hl] at ht
      rw [e, ht, h2.1, h2.2.1]
    · exact ih (pil_pop h1') h2.2.2 j (by omega)
theorem hM_at {t : Nat → Int32} : ∀ (M : List (Int32 × Int32)), pil2 (fun k => t (1 + k)) M → hgt t M.length = hM M := by
  intro M
  induction M with
  | nil => intro _; rfl
  | cons p R ih =>
    intro h
    have e := h.1
    show hgt t R.length + (if t (1 + 2 * R.length) = 0 ∨ t (1 + 2 * R.length) = 1 then 1 else if t (1 + 2 * R.length) = 2 then 0 else -1) = hM R + (if p.1 = 0 ∨ p.1 = 1 then 1 else if p.1 = 2 then 0 else -1)
    have e' : t (1 + 2 * R.length) = p.1 := e
    rw [ih h.2.2, e']
theorem MOk_at {u : Nat} {t : Nat → Int32} : ∀ (M : List (Int32 × Int32)), MOk u M → pil2 (fun k => t (1 + k)) M → ∀ i, i < M.length → StepOk u (t (1 + 2 * i)) (t (2 + 2 * i)) ∧ 1 ≤ hgt t (i + 1) ∧ (t (1 + 2 * i) = 2 → 1 ≤ hgt t i) ∧ (t (1 + 2 * i) = 3 → 2 ≤ hgt t i) := by
  intro M
  induction M with
  | nil => intro _ _ i hi; exact absurd hi (by simp)
  | cons p R ih =>
    intro h hp i hi
    rw [List.length_cons] at hi
    by_cases e : i = R.length
    · have hh := hM_at (p :: R) hp
      have hr := hM_at R hp.2.2
      rw [List.length_cons] at hh
      have e1 : t (1 + 2 * R.length) = p.1 := hp.1
      have e2 : t (2 + 2 * R.length) = p.2 := by
        have : t (1 + (2 * R.length + 1)) = p.2 := hp.2.1
        rw [show 2 + 2 * R.length = 1 + (2 * R.length + 1) by omega]
        exact this
      rw [e, e1, e2, hh, hr]
      exact ⟨h.2.1, h.2.2.1, h.2.2.2.1, h.2.2.2.2⟩
    · exact ih h.1 hp.2.2 i (by omega)
theorem TextOk_of {u : Nat} {t : Nat → Int32} {M : List (Int32 × Int32)} (h : MOk u M) (h1 : hM M = 1) (hl : M.length ≤ 60) (h0 : t 0 = nI M.length) (hp : pil2 (fun k => t (1 + k)) M) : TextOk u t := by
  have hc : (t 0).toNatClampNeg = M.length := by rw [h0]; exact clamp_nI (by omega)
  refine ⟨by rw [h0]; exact nI_rg (n := 60) hl (by omega), fun i hi => ?_, fun _ => ?_⟩
  · rw [hc] at hi
    exact MOk_at M h hp i hi
  · rw [hc, hM_at M hp, h1]
/-- signs worked out one behind the other -/
def emi : List Int32 → List Int32 → List Int32
  | [], C => C
  | g :: P, C => emi P (-g :: C)
theorem emi_app (Q : List Int32) : ∀ (P C : List Int32), emi (P ++ Q) C = emi Q (emi P C) := by
  intro P
  induction P with
  | nil => intro C; rfl
  | cons g P ih => intro C; exact ih _
def stopG (l : Nat) : List Int32 → Prop
  | [] => True
  | g :: _ => bi g < l
theorem relS_app {l : Nat} {G : List Int32} (hG : stopG l G) : ∀ (P C : List Int32), (∀ p, p ∈ P → l ≤ bi p) → relS l (P ++ G) C = (G, emi P C) := by
  intro P
  induction P with
  | nil =>
    intro C _
    cases G with
    | nil => rfl
    | cons g G =>
      have hlt : bi g < l := hG
      show (if l ≤ bi g then relS l G (-g :: C) else (g :: G, C)) = _
      rw [if_neg (by omega)]
      rfl
  | cons p P ih =>
    intro C h
    show (if l ≤ bi p then relS l (P ++ G) (-p :: C) else (p :: (P ++ G), C)) = _
    rw [if_pos (h p (List.mem_cons_self ..)), ih (-p :: C) (fun q hq => h q (List.mem_cons_of_mem _ hq))]
    rfl
theorem relS_fst (l : Nat) : ∀ (G C C' : List Int32), (relS l G C).1 = (relS l G C').1 := by
  intro G
  induction G with
  | nil => intro C C'; rfl
  | cons g G ih =>
    intro C C'
    unfold relS
    split
    · exact ih _ _
    · rfl
theorem stop_up {l l' : Nat} (h : l ≤ l') {G : List Int32} (hG : stopG l G) : stopG l' G := by
  cases G with
  | nil => exact True.intro
  | cons g G =>
    have : bi g < l := hG
    show bi g < l'
    omega
end
