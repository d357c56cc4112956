/-! PURE 45: the model's nonterminals -/
section
section PARSE2
variable {T : Nat → Int32} {N u : Nat} {σ : Nat → Int32} {m0 : Mem}
/-- what the tape is -/
def TPk (T : Nat → Int32) (N u : Nat) (σ : Nat → Int32) : Prop := N ≤ 60 ∧ σ 6 = nI N ∧ (∀ j, j < N → σ (432 + j) = T j) ∧ (∀ j, j < N → rg (T j) 0 255) ∧ u < 2
theorem MT.look (hT : TPk T N u σ) {i o : Nat} {M : List (Int32 × Int32)} {μ : Mem} (h : MT u σ m0 i o M μ) (hi : i ≤ N) : f_X9_look 142 μ = some (lk T N i, μ) := look9 hT.1 hT.2.1 hT.2.2.1 hi h.1 h.2.2.2.2.2.1
theorem prodC (hT : TPk T N u σ) {k : Nat} {R : Nat → Mem → Res} (hR : Con T N u σ m0 6 k (fun μ => R 142 μ)) : Con T N u σ m0 5 k (fun μ => f_X9_product R 142 μ) := by
  refine levC (l := 5) (L := fun n μ => X9_product_L9 R n 142 μ) hT.1 (by omega) hR (fun n i o M μ h hi => ?_)
  have hl := h.look hT hi
  show X9_product_L9B R (X9_product_L9 R n) 142 μ = _
  unfold X9_product_L9B X9_product_J36
  have e0 : isb (0 : Int32) = true := rfl
  have e1 : isb (1 : Int32) = true := rfl
  simp only [hl, cal_some, bnd_eq, h.1, nI_s, e0, e1, gd_t]
  by_cases c : lv (lk T N i) = 5
  · rw [if_pos c]
    rcases (lv5_iff _).mp c with q | q | q
    · rw [if_pos q]
    · rw [if_neg (by rw [q]; decide), if_pos q]
    · rw [if_neg (by rw [q]; decide), if_neg (by rw [q]; decide), if_pos q]
  · rw [if_neg c, if_neg (fun q => c ((lv5_iff _).mpr (Or.inl q))), if_neg (fun q => c ((lv5_iff _).mpr (Or.inr (Or.inl q)))), if_neg (fun q => c ((lv5_iff _).mpr (Or.inr (Or.inr q))))]
theorem sumC (hT : TPk T N u σ) {k : Nat} {R : Nat → Mem → Res} (hR : Con T N u σ m0 6 k (fun μ => R 142 μ)) : Con T N u σ m0 4 k (fun μ => f_X9_sum R 142 μ) := by
  refine levC (l := 4) (L := fun n μ => X9_sum_L9 R n 142 μ) hT.1 (by omega) (prodC hT hR) (fun n i o M μ h hi => ?_)
  have hl := h.look hT hi
  show X9_sum_L9B R (X9_sum_L9 R n) 142 μ = _
  unfold X9_sum_L9B X9_sum_J27
  have e0 : isb (0 : Int32) = true := rfl
  have e1 : isb (1 : Int32) = true := rfl
  simp only [hl, cal_some, bnd_eq, h.1, nI_s, e0, e1, gd_t]
  by_cases c : lv (lk T N i) = 4
  · rw [if_pos c]
    rcases (lv4_iff _).mp c with q | q
    · rw [if_pos q]
    · rw [if_neg (by rw [q]; decide), if_pos q]
  · rw [if_neg c, if_neg (fun q => c ((lv4_iff _).mpr (Or.inl q))), if_neg (fun q => c ((lv4_iff _).mpr (Or.inr q)))]
theorem compC (hT : TPk T N u σ) {k : Nat} {R : Nat → Mem → Res} (hR : Con T N u σ m0 6 k (fun μ => R 142 μ)) : Con T N u σ m0 3 k (fun μ => f_X9_compared R 142 μ) := by
  have hS := sumC hT hR
  intro i o M G μ hko ho hcnt hlen hiN hMO hh hst hMT
  have hst' := hst (by omega)
  have hh0 : f_X9_compared R 142 μ = cal (f_X9_sum R 142 μ) (fun r1 m2 => (if r1 = 0 then some (0, m2) else cal (f_X9_look 142 m2) (fun r3 m4 => (if lv r3 = 3 then X9_compared_J34 R 142 r3 m4 else some (1, m4))))) := by
    unfold f_X9_compared
    congr 1
    funext r1 m2
    by_cases q : r1 = 0
    · rw [if_pos q, if_pos q]; rfl
    · rw [if_neg q, if_neg q]
      congr 1
      funext r3 m4
      by_cases c : lv r3 = 3
      · rw [if_pos c]
        rcases (lv3_iff _).mp c with w | w | w
        · rw [if_pos w]
        · rw [if_neg (by rw [w]; decide), if_pos w]
        · rw [if_neg (by rw [w]; decide), if_neg (by rw [w]; decide), if_pos w]
      · rw [if_neg c, if_neg (fun w => c ((lv3_iff _).mpr (Or.inl w))), if_neg (fun w => c ((lv3_iff _).mpr (Or.inr (Or.inl w)))), if_neg (fun w => c ((lv3_iff _).mpr (Or.inr (Or.inr w))))]
        rfl
  show ∃ μ', (f_X9_compared R 142 μ = some (1, μ') ∧ _) ∨ (f_X9_compared R 142 μ = some (0, μ') ∧ _)
  rw [hh0]
  rcases hS i o M G μ hko ho hcnt hlen hiN hMO hh (fun _ => stop_up (by omega) hst') hMT with ⟨m1, ⟨a1, i1, M1, C1, P1, dg1, b1, b2', b3, b4, b5, b6, b7, b8, b9, b10⟩ | ⟨a1, i', b1, b2', b3⟩⟩
  · have a1' : f_X9_sum R 142 μ = some (1, m1) := a1
    rw [a1', cal_some, if_neg (by decide), b1.look hT b6, cal_some]
    by_cases c : lv (lk T N i1) = 3
    · rw [if_pos c]
      have hin : i1 < N := lv_in (T := T) (by omega)
      have hb : lk T N i1 = T i1 := lk_lt hin
      rw [hb] at c ⊢
      have hsg := lv_sg (b := T i1) (by omega)
      obtain ⟨s1, s2, s3, s4, s5, s6⟩ := sg_facts hsg
      have htk := tk_sign (u := u) (C := C1) (P := P1) (G := G) (dg := dg1) (l := 3) c (by omega) (fun p hp => by rw [if_pos rfl]; exact (b3 p hp).1) hst'
      have hrun2 := b9.trans (run_some hin htk)
      rw [b2'] at hrun2
      have hcn : cnt (T i1 :: G) = o := by
        show cnt G + (if T i1 = 33 ∨ T i1 = 40 then 1 else 0) = o
        rw [if_neg (by rintro (w | w); exact s3 w; exact s4 w), hcnt]
        rfl
      have hJ : ∀ m : Mem, m 142 5 = nI i1 → X9_compared_J34 R 142 (T i1) m = cal (f_X9_sum R 142 (mset m 142 5 (nI (i1 + 1)))) (fun r2 m3 => (if r2 = 0 then some (0, m3) else cal (f_X9_lays 142 3 (T i1) m3) (fun r4 m5 => some (1, m5)))) := by
        intro m e
        unfold X9_compared_J34
        rw [bnd_eq, e, nI_s]
        rfl
      rw [hJ m1 b1.1]
      rcases hS (i1 + 1) o M1 (T i1 :: G) _ hko ho hcn (by rw [List.length_cons]; omega) (by omega) b7 (by omega) (fun _ => by show bi (T i1) < 4; omega) b1.adv with ⟨m2, ⟨d1, i2, M2, C2, P2, dg2, e1, e2, e3, e4, e5, e6, e7, e8, e9, e10⟩ | ⟨d1, i2, e1, e2, e3⟩⟩
      · have d1' : f_X9_sum R 142 (mset m1 142 5 (nI (i1 + 1))) = some (1, m2) := d1
        have hT60 := hT.1
        rw [List.length_cons] at e4
        obtain ⟨m3, g1, g2⟩ := layT e1 (by omega) 3 (T i1)
        obtain ⟨x1, x2⟩ := step_sign hsg e7 (h0 := hM M) (by omega) hh
        have happ : P2 ++ T i1 :: G = (P2 ++ [T i1]) ++ G := by rw [List.append_assoc]; rfl
        have hq : (relS 4 (P2 ++ T i1 :: G) []).1 = T i1 :: G := by
          rw [relS_app (l := 4) (G := T i1 :: G) (by show bi (T i1) < 4; omega) P2 [] (fun p hp => (e3 p hp).1)]
        refine ⟨m3, Or.inl ⟨?_, i2, (3, T i1) :: M2, C2, P2 ++ [T i1], dg2, g2, ?_, fun p hp => ?_, ?_, by omega, e6, x1, x2, ?_, ?_, fun k' h1 h2 h3 => ?_⟩⟩
        · rw [d1', cal_some, if_neg (by decide), g1, cal_some]
        · rw [emi_app, e2]
          rfl
        · rcases List.mem_append.mp hp with w | w
          · exact ⟨by have := (e3 p w).1; omega, (e3 p w).2⟩
          · have : p = T i1 := by simpa using w
            rw [this]
            exact ⟨by omega, s4⟩
        · rw [List.length_cons]
          omega
        · rw [← happ]
          exact hrun2.trans e9
        · exact e10.1
        · rw [← happ]
          by_cases k3 : k' = 3
          · exact ⟨k3, by rw [hq]; exact decide_eq_true c⟩
          · exact e10.2 k' (by omega) h2 h3
      · have d1' : f_X9_sum R 142 (mset m1 142 5 (nI (i1 + 1))) = some (0, m2) := d1
        refine ⟨m2, Or.inr ⟨?_, i2, e1, e2, hrun2.trans e3⟩⟩
        rw [d1', cal_some, if_pos rfl]
    · rw [if_neg c]
      refine ⟨m1, Or.inl ⟨rfl, i1, M1, C1, P1, dg1, b1, b2', fun p hp => ⟨by have := (b3 p hp).1; omega, (b3 p hp).2⟩, b4, b5, b6, b7, b8, b9, b10.1, fun k' h1 h2 h3 => ?_⟩⟩
      by_cases k3 : k' = 3
      · exact absurd (h3.trans k3) c
      · exact b10.2 k' (by omega) h2 h3
  · have a1' : f_X9_sum R 142 μ = some (0, m1) := a1
    rw [a1', cal_some, if_pos rfl]
    exact ⟨m1, Or.inr ⟨rfl, i', b1, b2', b3⟩⟩
theorem bothC (hT : TPk T N u σ) {k : Nat} {R : Nat → Mem → Res} (hR : Con T N u σ m0 6 k (fun μ => R 142 μ)) : Con T N u σ m0 2 k (fun μ => f_X9_both R 142 μ) := by
  refine levC (l := 2) (L := fun n μ => X9_both_L9 R n 142 μ) hT.1 (by omega) (compC hT hR) (fun n i o M μ h hi => ?_)
  have hl := h.look hT hi
  show X9_both_L9B R (X9_both_L9 R n) 142 μ = _
  unfold X9_both_L9B
  rw [hl, cal_some, bnd_eq, h.1, nI_s]
  have e0 : isb (0 : Int32) = true := rfl
  have e1 : isb (1 : Int32) = true := rfl
  rw [e0, e1]
  simp only [gd_t]
  by_cases c : lv (lk T N i) = 2
  · have q := (lv2_iff _).mp c
    rw [if_pos c, if_pos q, q]
  · rw [if_neg c, if_neg (fun q => c ((lv2_iff _).mpr q))]
theorem wholeC (hT : TPk T N u σ) {k : Nat} {R : Nat → Mem → Res} (hR : Con T N u σ m0 6 k (fun μ => R 142 μ)) : Con T N u σ m0 1 k (fun μ => f_X9_whole R 142 μ) := by
  refine levC (l := 1) (L := fun n μ => X9_whole_L9 R n 142 μ) hT.1 (by omega) (bothC hT hR) (fun n i o M μ h hi => ?_)
  have hl := h.look hT hi
  show X9_whole_L9B R (X9_whole_L9 R n) 142 μ = _
  unfold X9_whole_L9B
  rw [hl, cal_some, bnd_eq, h.1, nI_s]
  have e0 : isb (0 : Int32) = true := rfl
  have e1 : isb (1 : Int32) = true := rfl
  rw [e0, e1]
  simp only [gd_t]
  by_cases c : lv (lk T N i) = 1
  · have q := (lv1_iff _).mp c
    rw [if_pos c, if_pos q, q]
  · rw [if_neg c, if_neg (fun q => c ((lv1_iff _).mpr q))]
/-- behind a whole that isn't closed here, the class takes nothing more -/
theorem tk_stuck {C G : List Int32} {dg i : Nat} (hi : i < N) (hf : Fol T N 1 i G dg) (h41 : T i = 41 → cbr G = 0) : tk u (C, G, false, dg) (T i) = none := by
  obtain ⟨f1, f2⟩ := hf
  rw [lk_lt hi] at f1 f2
  unfold tk
  by_cases c : (48 : Int32) ≤ T i ∧ T i ≤ 57
  · rw [if_pos c, if_neg (show ¬ ((C, G, false, dg) : RS).2.2.1 = true from Bool.false_ne_true)]
    exact if_pos (f1 c)
  · rw [if_neg c, if_neg (show ¬ ((C, G, false, dg) : RS).2.2.1 = true from Bool.false_ne_true)]
    by_cases q : T i = 41
    · rw [if_pos q]
      exact if_pos (h41 q)
    · rw [if_neg q]
      by_cases z : lv (T i) = 0
      · rw [if_pos z]
      · rw [if_neg z]
        obtain ⟨k3, hd⟩ := f2 (lv (T i)) (by omega) (lv_le _) rfl
        refine if_pos ⟨k3, ?_⟩
        show hd3 (relS 4 G C).1 = true
        rw [relS_fst 4 G C []]
        exact hd
theorem cbr_app (P G : List Int32) (h : ∀ p, p ∈ P → p ≠ 40) : cbr (P ++ G) = cbr G := by
  induction P with
  | nil => rfl
  | cons p P ih =>
    show cbr (P ++ G) + (if p = 40 then 1 else 0) = _
    rw [ih (fun q hq => h q (List.mem_cons_of_mem _ hq)), if_neg (h p (List.mem_cons_self ..))]
    rfl
/-- a number -/
theorem num46 (hT : TPk T N u σ) {R : Nat → Mem → Res} {i0 o : Nat} {M : List (Int32 × Int32)} {G : List Int32} (hlen : M.length + G.length ≤ i0) (hMO : MOk u M) (hh : 0 ≤ hM M) : ∀ d k w (μ : Mem) n, k + d = 4 → d < n → 1 ≤ k → i0 + k ≤ N → w < 10 ^ k → MT u σ m0 (i0 + k) o M μ → Run T N u (enc u M, G, true, 0) i0 = Run T N u (nI w :: enc u M, G, false, k) (i0 + k) → ∃ μ', X9_one_L46 R n 142 (nI w) (nI k) μ = some (1, μ') ∧ Suc T N u σ m0 6 i0 o M G μ' := by
  have hN := hT.1
  have fin : ∀ k w (μ : Mem), 1 ≤ k → k ≤ 4 → i0 + k ≤ N → w < 10000 → MT u σ m0 (i0 + k) o M μ → Run T N u (enc u M, G, true, 0) i0 = Run T N u (nI w :: enc u M, G, false, k) (i0 + k) → (((48 : Int32) ≤ lk T N (i0 + k) ∧ lk T N (i0 + k) ≤ 57) → k = 0 ∨ k = 4) → ∃ μ', X9_one_J94 R 142 (nI w) μ = some (1, μ') ∧ Suc T N u σ m0 6 i0 o M G μ' := by
    intro k w μ hk hk4 hiN hw hMT hrun hf
    obtain ⟨m1, a1, a2⟩ := layT hMT (by omega) 0 (nI w)
    have e : hM ((0, nI w) :: M) = hM M + 1 := by
      show hM M + (if (0 : Int32) = 0 ∨ (0 : Int32) = 1 then 1 else if (0 : Int32) = 2 then 0 else -1) = _
      rw [if_pos (Or.inl rfl)]
    refine ⟨m1, ?_, i0 + k, (0, nI w) :: M, nI w :: enc u M, [], k, a2, rfl, fun p hp => absurd hp (by simp), ?_, by omega, hiN, ⟨hMO, Or.inl ⟨rfl, nI_rg (n := 9999) (by omega) (by omega)⟩, by omega, fun q => absurd (show (0 : Int32) = 2 from q) (by decide), fun q => absurd (show (0 : Int32) = 3 from q) (by decide)⟩, e, hrun, hf, fun k' h1 h2 _ => by omega⟩
    · unfold X9_one_J94
      rw [a1, cal_some]
      rfl
    · rw [List.length_cons]
      omega
  intro d
  induction d with
  | zero =>
    intro k w μ n hk hn hk1 hiN hw hMT hrun
    obtain ⟨n, rfl⟩ : ∃ m, n = m + 1 := ⟨n - 1, by omega⟩
    have hk4 : k = 4 := by omega
    subst hk4
    obtain ⟨m1, a1, a2⟩ := fin 4 w μ (by omega) (by omega) hiN hw hMT hrun (fun _ => Or.inr rfl)
    refine ⟨m1, ?_, a2⟩
    show X9_one_L46B R _ 142 (nI w) (nI 4) μ = _
    unfold X9_one_L46B
    rw [if_pos (by decide)]
    exact a1
  | succ d ih =>
    intro k w μ n hk hn hk1 hiN hw hMT hrun
    obtain ⟨n, rfl⟩ : ∃ m, n = m + 1 := ⟨n - 1, by omega⟩
    have hl := hMT.look hT hiN
    have hh2 : X9_one_L46 R (n + 1) 142 (nI w) (nI k) μ = (if (48 : Int32) ≤ lk T N (i0 + k) ∧ lk T N (i0 + k) ≤ 57 then X9_one_L46 R n 142 (10 * nI w + lk T N (i0 + k) - 48) (nI (k + 1)) (mset μ 142 5 (nI (i0 + k + 1))) else X9_one_J94 R 142 (nI w) μ) := by
      show X9_one_L46B R _ 142 (nI w) (nI k) μ = _
      unfold X9_one_L46B
      rw [if_neg (fun q => absurd ((lit_le (x := 4) 4 rfl (by omega) (by omega : k < 2 ^ 31)).mp q) (by omega)), hl, cal_some, in_eq, cal_some]
      by_cases c : (48 : Int32) ≤ lk T N (i0 + k) ∧ lk T N (i0 + k) ≤ 57
      · rw [b2_t c, if_neg (by decide), if_pos c, hl, cal_some, bnd_eq, bnd_eq, bnd_eq, hMT.1, nI_s, nI_s]
      · rw [b2_f c, if_pos rfl, if_neg c]
    have hp4 : 10 ^ k ≤ 1000 := by
      rcases (show k = 1 ∨ k = 2 ∨ k = 3 by omega) with rfl | rfl | rfl <;> decide
    rw [hh2]
    by_cases c : (48 : Int32) ≤ lk T N (i0 + k) ∧ lk T N (i0 + k) ≤ 57
    · rw [if_pos c]
      have hin : i0 + k < N := by
        rcases Nat.lt_or_ge (i0 + k) N with q | q
        · exact q
        · rw [lk_n (by omega)] at c
          exact absurd c (by decide)
      rw [lk_lt hin] at c ⊢
      obtain ⟨v, hv1, hv2, hv⟩ := lit_rg 48 57 rfl rfl (by omega) (by omega) c
      have e1 : (10 : Int32) * nI w + T (i0 + k) - 48 = nI (10 * w + (v - 48)) := by
        rw [hv]
        show nI 10 * nI w + nI v - nI 48 = _
        rw [nI_mul, nI_add, nI_sub (by omega)]
        congr 1
        omega
      have e2 : nI w * 10 + (T (i0 + k) - 48) = nI (10 * w + (v - 48)) := by
        rw [hv]
        show nI w * nI 10 + (nI v - nI 48) = _
        rw [nI_sub (by omega), nI_mul, nI_add]
        congr 1
        omega
      have htk : tk u (nI w :: enc u M, G, false, k) (T (i0 + k)) = some (nI (10 * w + (v - 48)) :: enc u M, G, false, k + 1) := by
        unfold tk
        rw [if_pos c, if_neg (show ¬ ((nI w :: enc u M, G, false, k) : RS).2.2.1 = true from Bool.false_ne_true)]
        show (if k = 0 ∨ k = 4 then none else some ((nI w * 10 + (T (i0 + k) - 48)) :: enc u M, G, false, k + 1)) = _
        rw [if_neg (by omega), e2]
      rw [e1]
      have := ih (k + 1) (10 * w + (v - 48)) (mset μ 142 5 (nI (i0 + k + 1))) n (by omega) (by omega) (by omega) (by omega) (by rw [Nat.pow_succ]; omega) hMT.adv (hrun.trans (run_some hin htk))
      exact this
    · rw [if_neg c]
      exact fin k w μ hk1 (by omega) hiN (by omega) hMT hrun (fun q => absurd q c)
end PARSE2
end
