/-! PURE 46: one part of a text -/
section
section ONE
variable {T : Nat → Int32} {N u : Nat} {σ : Nat → Int32} {m0 : Mem}
theorem name_facts (hu : u < 2) {b : Int32} (h : (0 : Int32) ≤ sidx (nI u) b) : rg (sidx (nI u) b) 0 3 ∧ rg b 99 115 ∧ ¬ ((48 : Int32) ≤ b ∧ b ≤ 57) ∧ ¬ (b = 33 ∨ b = 40) := by
  rcases (show u = 0 ∨ u = 1 by omega) with rfl | rfl
  · rw [sidx0] at h
    by_cases c1 : b = 109
    · subst c1; unfold rg; decide
    by_cases c2 : b = 107
    · subst c2; unfold rg; decide
    by_cases c3 : b = 108
    · subst c3; unfold rg; decide
    by_cases c4 : b = 103
    · subst c4; unfold rg; decide
    rw [if_neg (fun q => c2 q.symm), if_neg (fun q => c3 q.symm), if_neg (fun q => c4 q.symm), if_neg (fun q => c1 q.symm)] at h
    exact absurd h (by decide)
  · rw [sidx1] at h
    by_cases c1 : b = 109
    · subst c1; unfold rg; decide
    by_cases c2 : b = 99
    · subst c2; unfold rg; decide
    by_cases c3 : b = 115
    · subst c3; unfold rg; decide
    by_cases c4 : b = 100
    · subst c4; unfold rg; decide
    rw [if_neg (fun q => c2 q.symm), if_neg (fun q => c3 q.symm), if_neg (fun q => c4 q.symm), if_neg (fun q => c1 q.symm)] at h
    exact absurd h (by decide)
theorem sidx_m1 (hu : u < 2) : ¬ (0 : Int32) ≤ sidx (nI u) (-1) := by
  rcases (show u = 0 ∨ u = 1 by omega) with rfl | rfl <;> decide
theorem opensT {i o : Nat} {M : List (Int32 × Int32)} {μ : Mem} (h : MT u σ m0 i o M μ) (ho : o < 5) : ∃ μ', f_X9_opens 142 μ = some (1, μ') ∧ MT u σ m0 (i + 1) (o + 1) M μ' := by
  refine ⟨mset (mset μ 142 6 (nI (o + 1))) 142 5 (nI (i + 1)), ?_, h.opn.adv⟩
  unfold f_X9_opens
  rw [h.2.1, if_neg (show ¬ nI o = 5 from fun q => absurd ((eqI (x := 5) 5 rfl (by omega) (by omega)).mp q) (by omega)), bnd_eq, nI_s, bnd_eq, mset_ne (show ¬ ((142 : Nat) = 142 ∧ 5 = 6) by omega), h.1, nI_s]
  rfl
theorem oneC (hT : TPk T N u σ) : ∀ n, Con T N u σ m0 6 (6 - n) (fun μ => f_X9_one n 142 μ) := by
  have hN := hT.1
  have hu := hT.2.2.2.2
  intro n
  induction n with
  | zero => intro i o M G μ hk ho; omega
  | succ n ih =>
    intro i o M G μ hk ho hcnt hlen hiN hMO hh _ hMT
    have hl := hMT.look hT hiN
    have hnm := isName9 hu hMT.2.2.2.1 (lk T N i)
    have e0 : isb (0 : Int32) = true := rfl
    have e1 : isb (1 : Int32) = true := rfl
    show ∃ μ', (f_X9_one_B (f_X9_one n) 142 μ = some (1, μ') ∧ _) ∨ (f_X9_one_B (f_X9_one n) 142 μ = some (0, μ') ∧ _)
    have hlt : i < N ∨ i = N := by omega
    by_cases cn : (0 : Int32) ≤ sidx (nI u) (lk T N i)
    · have hin : i < N := by
        rcases hlt with q | q
        · exact q
        · rw [lk_n (by omega)] at cn
          exact absurd cn (sidx_m1 hu)
      obtain ⟨n1, n2, n3, n4⟩ := name_facts hu cn
      obtain ⟨m1, a1, a2⟩ := layT hMT.adv (by omega) 1 (lk T N i)
      have htk : tk u (enc u M, G, true, 0) (T i) = some ((-1 - sidx (nI u) (T i)) :: enc u M, G, false, 0) := by
        rw [lk_lt hin] at cn n3 n4
        unfold tk
        rw [if_neg n3, if_pos rfl, if_neg n4, if_pos cn]
      have e : hM ((1, lk T N i) :: M) = hM M + 1 := by
        show hM M + (if (1 : Int32) = 0 ∨ (1 : Int32) = 1 then 1 else if (1 : Int32) = 2 then 0 else -1) = _
        rw [if_pos (Or.inr rfl)]
      refine ⟨m1, Or.inl ⟨?_, i + 1, (1, lk T N i) :: M, (-1 - sidx (nI u) (T i)) :: enc u M, [], 0, a2, ?_, fun p hp => absurd hp (by simp), ?_, by omega, by omega, ⟨hMO, Or.inr (Or.inl ⟨rfl, n1, n2⟩), by omega, fun q => absurd (show (1 : Int32) = 2 from q) (by decide), fun q => absurd (show (1 : Int32) = 3 from q) (by decide)⟩, e, run_some hin htk, fun _ => Or.inl rfl, fun k' h1 h2 _ => by omega⟩⟩
      · unfold f_X9_one_B
        rw [hl, cal_some, hnm, cal_some, b2_t cn, if_neg (by decide), bnd_eq, hMT.1, nI_s, a1, cal_some]
        rfl
      · rw [lk_lt hin]
        rfl
      · rw [List.length_cons]
        omega
    · by_cases cd : (48 : Int32) ≤ lk T N i ∧ lk T N i ≤ 57
      · have hin : i < N := by
          rcases hlt with q | q
          · exact q
          · rw [lk_n (by omega)] at cd
            exact absurd cd (by decide)
        have cd' := cd
        rw [lk_lt hin] at cd'
        obtain ⟨v, hv1, hv2, hv⟩ := lit_rg 48 57 rfl rfl (by omega) (by omega) cd'
        have e2 : T i - 48 = nI (v - 48) := by
          rw [hv]
          exact nI_sub' (x := 48) (b := 48) rfl hv1
        have htk : tk u (enc u M, G, true, 0) (T i) = some (nI (v - 48) :: enc u M, G, false, 1) := by
          unfold tk
          rw [if_pos cd', if_pos rfl, e2]
        obtain ⟨m1, a1, a2⟩ := num46 hT (R := f_X9_one n) hlen hMO hh 3 1 (v - 48) (mset μ 142 5 (nI (i + 1))) 1099 (by omega) (by omega) (by omega) (by omega) (by show v - 48 < 10; omega) hMT.adv (run_some hin htk)
        refine ⟨m1, Or.inl ⟨?_, a2⟩⟩
        unfold f_X9_one_B
        rw [hl, cal_some, hnm, cal_some, b2_f cn, if_pos rfl, in_eq, cal_some, b2_t cd, if_neg (by decide)]
        show X9_one_L46B (f_X9_one n) (X9_one_L46 (f_X9_one n) 1099) 142 0 0 μ = _
        unfold X9_one_L46B
        have e3 : (10 : Int32) * 0 + T i - 48 = nI (v - 48) := by
          rw [← e2]
          show (10 : Int32) * 0 + T i - 48 = T i - 48
          rw [Int32.mul_zero, Int32.zero_add]
        rw [if_neg (by decide), hl, cal_some, in_eq, cal_some, b2_t cd, if_neg (by decide), hl, cal_some, bnd_eq, bnd_eq, bnd_eq, hMT.1, nI_s, lk_lt hin, e3]
        exact a1
      · have hB : f_X9_one_B (f_X9_one n) 142 μ = (if lk T N i = 33 then cal (f_X9_opens 142 μ) (fun r15 m16 => (if r15 = 0 then some (0, m16) else cal (f_X9_one n 142 m16) (fun r17 m18 => (if r17 = 0 then some (0, m18) else cal (f_X9_lays 142 2 0 (mset m18 142 6 (m18 142 6 - 1))) (fun r20 m21 => some (1, m21)))))) else (if lk T N i = 40 then cal (f_X9_opens 142 μ) (fun r7 m8 => (if r7 = 0 then some (0, m8) else cal (f_X9_whole (f_X9_one n) 142 m8) (fun r9 m10 => (if r9 = 0 then some (0, m10) else cal (f_X9_look 142 m10) (fun r11 m12 => (if r11 = 41 then some (1, mset (mset m12 142 5 (m12 142 5 + 1)) 142 6 (mset m12 142 5 (m12 142 5 + 1) 142 6 - 1)) else some (0, m12))))))) else some (0, μ))) := by
          unfold f_X9_one_B X9_one_J122 X9_one_J171
          rw [hl, cal_some, hnm, cal_some, b2_f cn, if_pos rfl, in_eq, cal_some, b2_f cd, if_pos rfl]
          rfl
        rw [hB]
        have hOp : o = 5 → f_X9_opens 142 μ = some (0, μ) := by
          intro q
          unfold f_X9_opens
          rw [hMT.2.1, if_pos (show nI o = 5 from by rw [q]; rfl)]
          rfl
        have hno : (T i = 33 ∨ T i = 40) → i < N → o = 5 → Run T N u (enc u M, G, true, 0) i = Sum.inl i := by
          intro hb hin q
          refine run_none hin ?_
          rw [lk_lt hin] at cd
          unfold tk
          rw [if_neg cd, if_pos rfl, if_pos hb]
          show (if cnt G = 5 then none else some (enc u M, T i :: G, true, 0)) = none
          rw [if_pos (by omega)]
        have hyes : (T i = 33 ∨ T i = 40) → i < N → o < 5 → Run T N u (enc u M, G, true, 0) i = Run T N u (enc u M, T i :: G, true, 0) (i + 1) := by
          intro hb hin q
          refine run_some hin ?_
          rw [lk_lt hin] at cd
          unfold tk
          rw [if_neg cd, if_pos rfl, if_pos hb]
          show (if cnt G = 5 then none else some (enc u M, T i :: G, true, 0)) = _
          rw [if_neg (by omega)]
        have hcn1 : (T i = 33 ∨ T i = 40) → cnt (T i :: G) = o + 1 := by
          intro hb
          show cnt G + (if T i = 33 ∨ T i = 40 then 1 else 0) = o + 1
          rw [if_pos hb, hcnt]
        by_cases c33 : lk T N i = 33
        · have hin : i < N := by
            rcases hlt with q | q
            · exact q
            · rw [lk_n (by omega)] at c33
              exact absurd c33 (by decide)
          have hb : T i = 33 := by rw [← lk_lt (T := T) hin]; exact c33
          rw [if_pos c33]
          by_cases o5 : o = 5
          · rw [hOp o5, cal_some, if_pos rfl]
            exact ⟨μ, Or.inr ⟨rfl, i, hMT.w, hiN, hno (Or.inl hb) hin o5⟩⟩
          · obtain ⟨m1, a1, a2⟩ := opensT hMT (by omega)
            rw [a1, cal_some, if_neg (by decide)]
            rcases ih (i + 1) (o + 1) M (T i :: G) m1 (by omega) (by omega) (hcn1 (Or.inl hb)) (by rw [List.length_cons]; omega) (by omega) hMO hh (fun q => absurd q (by omega)) a2 with ⟨m2, ⟨d1, i2, M2, C2, P2, dg2, f1, f2, f3, f4, f5, f6, f7, f8, f9, f10⟩ | ⟨d1, i2, f1, f2, f3⟩⟩
            · have d1' : f_X9_one n 142 m1 = some (1, m2) := d1
              rw [List.length_cons] at f4
              have e6 : m2 142 6 - 1 = nI o := by
                rw [f1.2.1, nI_pred1 (by omega)]
                rfl
              obtain ⟨m3, g1, g2⟩ := layT (f1.opn (o' := o)) (by omega) 2 0
              have e : hM ((2, 0) :: M2) = hM M + 1 := by
                show hM M2 + (if (2 : Int32) = 0 ∨ (2 : Int32) = 1 then 1 else if (2 : Int32) = 2 then 0 else -1) = _
                rw [if_neg (by decide), if_pos rfl]
                omega
              have happ : P2 ++ T i :: G = (P2 ++ [33]) ++ G := by rw [List.append_assoc, hb]; rfl
              rw [happ] at f9 f10
              rw [d1', cal_some, if_neg (by decide), e6, g1, cal_some]
              refine ⟨m3, Or.inl ⟨rfl, i2, (2, 0) :: M2, C2, P2 ++ [33], dg2, g2, ?_, fun p hp => ?_, ?_, by omega, f6, ⟨f7, Or.inr (Or.inr (Or.inl ⟨rfl, rfl⟩)), by omega, fun _ => by omega, fun q => absurd (show (2 : Int32) = 3 from q) (by decide)⟩, e, (hyes (Or.inl hb) hin (by omega)).trans f9, f10⟩⟩
              · rw [emi_app, f2]
                rfl
              · rcases List.mem_append.mp hp with w | w
                · exact f3 p w
                · have : p = 33 := by simpa using w
                  rw [this]
                  exact ⟨by decide, by decide⟩
              · rw [List.length_cons]
                omega
            · have d1' : f_X9_one n 142 m1 = some (0, m2) := d1
              rw [d1', cal_some, if_pos rfl]
              exact ⟨m2, Or.inr ⟨rfl, i2, f1, f2, (hyes (Or.inl hb) hin (by omega)).trans f3⟩⟩
        · rw [if_neg c33]
          by_cases c40 : lk T N i = 40
          · have hin : i < N := by
              rcases hlt with q | q
              · exact q
              · rw [lk_n (by omega)] at c40
                exact absurd c40 (by decide)
            have hb : T i = 40 := by rw [← lk_lt (T := T) hin]; exact c40
            rw [if_pos c40]
            by_cases o5 : o = 5
            · rw [hOp o5, cal_some, if_pos rfl]
              exact ⟨μ, Or.inr ⟨rfl, i, hMT.w, hiN, hno (Or.inr hb) hin o5⟩⟩
            · obtain ⟨m1, a1, a2⟩ := opensT hMT (by omega)
              rw [a1, cal_some, if_neg (by decide)]
              rcases wholeC hT ih (i + 1) (o + 1) M (T i :: G) m1 (by omega) (by omega) (hcn1 (Or.inr hb)) (by rw [List.length_cons]; omega) (by omega) hMO hh (fun _ => by show bi (T i) < 1; rw [hb]; decide) a2 with ⟨m2, ⟨d1, i2, M2, C2, P2, dg2, f1, f2, f3, f4, f5, f6, f7, f8, f9, f10⟩ | ⟨d1, i2, f1, f2, f3⟩⟩
              · have d1' : f_X9_whole (f_X9_one n) 142 m1 = some (1, m2) := d1
                rw [List.length_cons] at f4
                rw [d1', cal_some, if_neg (by decide), f1.look hT f6, cal_some]
                have hcb : 0 < cbr (P2 ++ T i :: G) := by
                  rw [cbr_app P2 _ (fun p hp => (f3 p hp).2)]
                  show 0 < cbr G + (if T i = 40 then 1 else 0)
                  rw [if_pos hb]
                  omega
                have hrun := (hyes (Or.inr hb) hin (by omega)).trans f9
                by_cases c41 : lk T N i2 = 41
                · have hin2 : i2 < N := by
                    rcases Nat.lt_or_ge i2 N with q | q
                    · exact q
                    · rw [lk_n (by omega)] at c41
                      exact absurd c41 (by decide)
                  have hb2 : T i2 = 41 := by rw [← lk_lt (T := T) hin2]; exact c41
                  have e6 : nI (o + 1) - 1 = nI o := by rw [nI_pred1 (by omega)]; rfl
                  have hrel := relS_app (l := 1) (G := T i :: G) (by show bi (T i) < 1; rw [hb]; decide) P2 C2 (fun p hp => (f3 p hp).1)
                  have htk : tk u (C2, P2 ++ T i :: G, false, dg2) (T i2) = some (enc u M2, G, false, 0) := by
                    unfold tk
                    rw [hb2, if_neg (by decide), if_neg (show ¬ ((C2, P2 ++ T i :: G, false, dg2) : RS).2.2.1 = true from Bool.false_ne_true), if_pos rfl]
                    show (if cbr (P2 ++ T i :: G) = 0 then none else some ((relS 1 (P2 ++ T i :: G) C2).2, (relS 1 (P2 ++ T i :: G) C2).1.tail, false, 0)) = _
                    rw [if_neg (by omega), hrel, ← f2]
                    rfl
                  rw [if_pos c41, f1.1, nI_s, mset_ne (show ¬ ((142 : Nat) = 142 ∧ 6 = 5) by omega), f1.2.1, e6]
                  refine ⟨_, Or.inl ⟨rfl, i2 + 1, M2, enc u M2, [], 0, f1.adv.opn, rfl, fun p hp => absurd hp (by simp), by omega, by omega, by omega, f7, f8, hrun.trans (run_some hin2 htk), fun _ => Or.inl rfl, fun k' h1 h2 _ => by omega⟩⟩
                · rw [if_neg c41]
                  refine ⟨m2, Or.inr ⟨rfl, i2, f1.w, f6, ?_⟩⟩
                  rw [hrun]
                  rcases (show i2 < N ∨ i2 = N by omega) with q | q
                  · exact run_none q (tk_stuck q f10 (fun w => absurd (by rw [lk_lt q]; exact w) c41))
                  · subst q
                    rw [run_end]
                    exact if_pos (Or.inr hcb)
              · have d1' : f_X9_whole (f_X9_one n) 142 m1 = some (0, m2) := d1
                rw [d1', cal_some, if_pos rfl]
                exact ⟨m2, Or.inr ⟨rfl, i2, f1, f2, (hyes (Or.inr hb) hin (by omega)).trans f3⟩⟩
          · rw [if_neg c40]
            refine ⟨μ, Or.inr ⟨rfl, i, hMT.w, hiN, ?_⟩⟩
            rcases hlt with q | q
            · refine run_none q ?_
              rw [lk_lt q] at cd cn c33 c40
              unfold tk
              rw [if_neg cd, if_pos rfl, if_neg (by rintro (w | w); exact c33 w; exact c40 w), if_neg cn]
            · subst q
              rw [run_end]
              exact if_pos (Or.inl rfl)
end ONE
end
