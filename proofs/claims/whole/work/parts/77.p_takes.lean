/-! PURE 42: the class's reader takes a byte, and all bytes -/
section
theorem modb_all : ∀ k, k < 256 → (((nI k).toUInt32 % 65536).toInt32) = nI k := by decide +kernel
theorem modb {b : Int32} (h : rg b 0 255) : (b.toUInt32 % 65536).toInt32 = b := by
  obtain ⟨k, hk, rfl⟩ := rg_nI (n := 255) h (by omega)
  exact modb_all k (by omega)
theorem relS_stop (l : Nat) : ∀ (G C : List Int32), (relS l G C).1 = [] ∨ ∃ g R, (relS l G C).1 = g :: R ∧ bi g < l := by
  intro G
  induction G with
  | nil => intro C; exact Or.inl rfl
  | cons g G ih =>
    intro C
    unfold relS
    split
    · exact ih _
    · rename_i h
      exact Or.inr ⟨g, G, rfl, by omega⟩
theorem takesD {u : Nat} {μ : Mem} {C G : List Int32} {due : Bool} {dg : Nat} (h : RSm u μ (C, G, due, dg)) (hb : C.length + G.length < 60) {b : Int32} (hd : (48 : Int32) ≤ b ∧ b ≤ 57) : (tk u (C, G, due, dg) b = none ∧ ∃ μ', f_X2_takes 125 b μ = some (0, μ') ∧ FrR μ μ') ∨ (∃ S' μ', tk u (C, G, due, dg) b = some S' ∧ f_X2_takes 125 b μ = some (1, μ') ∧ RSm u μ' S' ∧ FrR μ μ') := by
  obtain ⟨h1, h2, h3, h4, h5, h6, h7, h8, h9, hG, hdg⟩ := h
  have hT : f_X2_takes 125 b μ = cal (f_X2_takesDigit 125 (b - 48) μ) (fun r10 m11 => gd (isb r10) (some (r10, m11))) := by
    unfold f_X2_takes
    rw [within_eq, cal_some, b2_t hd, if_neg (by decide)]
  have hk : tk u (C, G, due, dg) b = (if due = true then some ((b - 48) :: C, G, false, 1) else if dg = 0 ∨ dg = 4 then none else (match C with
       | [] => none
       | c :: C => some ((c * 10 + (b - 48)) :: C, G, false, dg + 1))) := if_pos hd
  rw [hk, hT]
  cases due with
  | true =>
    obtain ⟨m1, a1, a2, a3, a4, a5⟩ := emit2 (μ := μ) (C := C) (by omega) h1 h2 (b - 48)
    have h7' : μ 125 6 = 1 := h7
    refine Or.inr ⟨_, mset (mset m1 125 6 0) 125 7 1, if_pos rfl, ?_, ⟨?_, ?_, ?_, ?_, ?_, ?_, ?_, ?_, ?_, hG, by show 1 ≤ 4; omega⟩, fun l x y z => ?_⟩
    · unfold f_X2_takesDigit
      rw [h7', if_neg (by decide), a1, cal_some]
      rfl
    · rw [mset_ne (by omega), mset_ne (by omega)]; exact a2
    · rw [mset_row (by omega), mset_row (by omega)]; exact a3
    · rw [mset_ne (by omega), mset_ne (by omega), a4 3 (by omega)]; exact h3
    · rw [mset_row (by omega), mset_row (by omega), a5 127 (by omega) (by omega)]; exact h4
    · rw [mset_ne (by omega), mset_ne (by omega), a4 4 (by omega)]; exact h5
    · rw [mset_ne (by omega), mset_ne (by omega), a4 5 (by omega)]; exact h6
    · rw [mset_ne (by omega), mset_self]; rfl
    · rw [mset_self]; rfl
    · rw [mset_ne (by omega), mset_ne (by omega), a4 8 (by omega)]; exact h9
    · rw [mset_row x, mset_row x, a5 l x y]
  | false =>
    have h7' : μ 125 6 = 0 := h7
    have h8' : μ 125 7 = nI dg := h8
    have hdg4 : dg ≤ 4 := hdg
    have h46 : X2_takesDigit_J46 μ = some (0, μ) := rfl
    have hD : f_X2_takesDigit 125 (b - 48) μ = (if nI dg = 0 then some (0, μ) else if nI dg = 4 then some (0, μ) else if nI C.length = 0 then some (0, μ) else gd (inb (nI C.length - 1) 60) (gd (inb (nI C.length - 1) 60) (bnd (mset μ 126 (nI C.length - 1).toNatClampNeg (μ 126 (nI C.length - 1).toNatClampNeg * 10 + (b - 48))) (fun m1 => bnd (mset m1 125 7 (m1 125 7 + 1)) (fun m2 => gd (isb 1) (some (1, m2))))))) := by
      unfold f_X2_takesDigit
      rw [h7', if_pos rfl, h8', h46, h1]
    rw [if_neg (by decide), hD]
    by_cases c0 : dg = 0
    · refine Or.inl ⟨if_pos (Or.inl c0), μ, ?_, FrR.rf _⟩
      rw [if_pos (by rw [c0]; rfl)]
      rfl
    by_cases c4 : dg = 4
    · refine Or.inl ⟨if_pos (Or.inr c4), μ, ?_, FrR.rf _⟩
      rw [if_neg (fun q => c0 ((eqI (x := 0) 0 rfl (by omega) (by omega)).mp q)), if_pos (by rw [c4]; rfl)]
      rfl
    rw [if_neg (fun q => c0 ((eqI (x := 0) 0 rfl (by omega) (by omega)).mp q)), if_neg (fun q => c4 ((eqI (x := 4) 4 rfl (by omega) (by omega)).mp q)), if_neg (by rintro (q | q); exact c0 q; exact c4 q)]
    cases C with
    | nil =>
      refine Or.inl ⟨rfl, μ, ?_, FrR.rf _⟩
      rw [if_pos (by decide)]
      rfl
    | cons c C =>
      simp only [List.length_cons] at hb h1 ⊢
      have hx : nI (C.length + 1) - 1 = nI C.length := by rw [nI_pred1 (by omega)]; rfl
      have ht : μ 126 C.length = c := pil_top h2
      refine Or.inr ⟨_, mset (mset μ 126 C.length (c * 10 + (b - 48))) 125 7 (nI (dg + 1)), rfl, ?_, ⟨?_, ?_, ?_, ?_, ?_, ?_, ?_, ?_, ?_, hG, by show dg + 1 ≤ 4; omega⟩, fun l x y z => ?_⟩
      · rw [if_neg (fun q => absurd ((eqI (x := 0) 0 rfl (by omega) (by omega : C.length + 1 < 2 ^ 31)).mp q) (by omega)), hx, inb_nI (by omega) (by omega), gd_t, gd_t, bnd_eq, bnd_eq, clamp_nI (by omega), ht, mset_row (show (125 : Nat) ≠ 126 by omega), h8', nI_s]
        rfl
      · rw [mset_ne (by omega), mset_row (by omega)]; exact h1
      · rw [mset_row (by omega), mset_sR, sR_same]; exact pil_set h2 _
      · rw [mset_ne (by omega), mset_row (by omega)]; exact h3
      · rw [mset_row (by omega), mset_row (by omega)]; exact h4
      · rw [mset_ne (by omega), mset_row (by omega)]; exact h5
      · rw [mset_ne (by omega), mset_row (by omega)]; exact h6
      · rw [mset_ne (by omega), mset_row (by omega)]; exact h7
      · rw [mset_self]
      · rw [mset_ne (by omega), mset_row (by omega)]; exact h9
      · rw [mset_row x, mset_row y]
theorem takesP {u : Nat} {μ : Mem} {C G : List Int32} {dg : Nat} (h : RSm u μ (C, G, true, dg)) (hb : C.length + G.length < 60) {b : Int32} (hbr : rg b 0 255) (hd : ¬ ((48 : Int32) ≤ b ∧ b ≤ 57)) : (tk u (C, G, true, dg) b = none ∧ ∃ μ', f_X2_takes 125 b μ = some (0, μ') ∧ FrR μ μ') ∨ (∃ S' μ', tk u (C, G, true, dg) b = some S' ∧ f_X2_takes 125 b μ = some (1, μ') ∧ RSm u μ' S' ∧ FrR μ μ') := by
  obtain ⟨h1, h2, h3, h4, h5, h6, h7, h8, h9, hG, hdg⟩ := h
  have h1 : μ 125 1 = nI C.length := h1
  have h2 : pil (μ 126) C := h2
  have h3 : μ 125 3 = nI G.length := h3
  have h4 : pil (μ 127) G := h4
  have h5 : μ 125 4 = nI (cnt G) := h5
  have h6 : μ 125 5 = nI (cbr G) := h6
  have hG : GOk G := hG
  have hcn := cnt_le G
  obtain ⟨m3, hm3⟩ : ∃ m3, m3 = mset μ 125 7 0 := ⟨_, rfl⟩
  have f3 : ∀ f, f ≠ 7 → m3 125 f = μ 125 f := fun f hf => by rw [hm3]; exact mset_ne (by omega)
  have f7 : m3 125 7 = 0 := by rw [hm3]; exact mset_self
  have g3 : ∀ l, l ≠ 125 → m3 l = μ l := fun l hl => by rw [hm3]; exact mset_row hl
  have h7' : m3 125 6 = 1 := by rw [f3 6 (by omega)]; exact h7
  have hT : f_X2_takes 125 b μ = (if b = 33 then X2_takes_J44 125 b m3 else (if b = 40 then X2_takes_J44 125 b m3 else cal (f_X2_takesName 125 b m3) (fun r8 m9 => X2_takes_J57 r8 m9))) := by
    unfold f_X2_takes
    rw [within_eq, cal_some, b2_f hd, if_pos rfl, bnd_eq, ← hm3, h7', if_neg (by decide)]
  have hk : tk u (C, G, true, dg) b = (if b = 33 ∨ b = 40 then (if cnt G = 5 then none else some (C, b :: G, true, 0)) else if (0 : Int32) ≤ sidx (nI u) b then some ((-1 - sidx (nI u) b) :: C, G, false, 0) else none) := by
    unfold tk
    rw [if_neg hd, if_pos rfl]
  rw [hk, hT]
  have fr3 : FrR μ m3 := fun l x _ _ => g3 l x
  by_cases cb : b = 33 ∨ b = 40
  · rw [if_pos cb]
    have hT2 : (if b = 33 then X2_takes_J44 125 b m3 else (if b = 40 then X2_takes_J44 125 b m3 else cal (f_X2_takesName 125 b m3) (fun r8 m9 => X2_takes_J57 r8 m9))) = X2_takes_J44 125 b m3 := by
      rcases cb with q | q
      · rw [if_pos q]
      · rw [if_pos q, ite_self]
    rw [hT2]
    unfold X2_takes_J44 X2_takes_J57 f_X2_opens X2_opens_J36
    rw [f3 4 (by omega), h5]
    by_cases c5 : cnt G = 5
    · refine Or.inl ⟨if_pos c5, m3, ?_, fr3⟩
      rw [if_pos (show nI (cnt G) = 5 from by rw [c5]; rfl)]
      rfl
    · rw [if_neg c5, if_neg (show ¬ nI (cnt G) = 5 from fun q => c5 ((eqI (x := 5) 5 rfl (by omega) (by omega)).mp q)), bnd_eq, nI_s]
      obtain ⟨m4, hm4, e4, e5, f4, g4⟩ : ∃ m4, (if b = 40 then bnd (mset (mset m3 125 4 (nI (cnt G + 1))) 125 5 (mset m3 125 4 (nI (cnt G + 1)) 125 5 + 1)) (fun m2 => cal (f_X2_push 125 b m2) (fun r1 m2 => gd (isb 1) (some (1, m2)))) else cal (f_X2_push 125 b (mset m3 125 4 (nI (cnt G + 1)))) (fun r1 m2 => gd (isb 1) (some (1, m2)))) = cal (f_X2_push 125 b m4) (fun r1 m2 => gd (isb 1) (some (1, m2))) ∧ m4 125 4 = nI (cnt G + 1) ∧ m4 125 5 = nI (cbr G + (if b = 40 then 1 else 0)) ∧ (∀ f, f ≠ 4 → f ≠ 5 → m4 125 f = m3 125 f) ∧ ∀ l, l ≠ 125 → m4 l = m3 l := by
        by_cases q : b = 40
        · refine ⟨mset (mset m3 125 4 (nI (cnt G + 1))) 125 5 (nI (cbr G + 1)), ?_, ?_, ?_, fun f x y => ?_, fun l x => ?_⟩
          · rw [if_pos q, bnd_eq, mset_ne (by omega), f3 5 (by omega), h6, nI_s]
          · rw [mset_ne (by omega), mset_self]
          · rw [mset_self, if_pos q]
          · rw [mset_ne (by omega), mset_ne (by omega)]
          · rw [mset_row x, mset_row x]
        · refine ⟨mset m3 125 4 (nI (cnt G + 1)), by rw [if_neg q], mset_self, ?_, fun f x y => mset_ne (by omega), fun l x => mset_row x⟩
          rw [mset_ne (by omega), f3 5 (by omega), if_neg q]
          exact h6
      obtain ⟨m5, a1, a2, a3, a4, a5⟩ := push2 (μ := m4) (G := G) (by omega) (by rw [f4 3 (by omega) (by omega), f3 3 (by omega)]; exact h3) (by rw [g4 127 (by omega), g3 127 (by omega)]; exact h4) b
      refine Or.inr ⟨_, m5, rfl, ?_, ⟨?_, ?_, ?_, a3, ?_, ?_, ?_, ?_, ?_, fun g hg => ?_, by show 0 ≤ 4; omega⟩, fun l x y z => ?_⟩
      · rw [show (isb (1 : Int32)) = true from rfl] at hm4 ⊢
        simp only [gd_t] at hm4 ⊢
        have hm4' := hm4
        rw [hm4', a1, cal_some, cal_some]
        rfl
      · rw [a4 1 (by omega), f4 1 (by omega) (by omega), f3 1 (by omega)]; exact h1
      · rw [a5 126 (by omega) (by omega), g4 126 (by omega), g3 126 (by omega)]; exact h2
      · rw [a2]; rfl
      · rw [a4 4 (by omega), e4]
        show _ = nI (cnt G + (if b = 33 ∨ b = 40 then 1 else 0))
        rw [if_pos cb]
      · rw [a4 5 (by omega), e5]; rfl
      · rw [a4 6 (by omega), f4 6 (by omega) (by omega), h7']; rfl
      · rw [a4 7 (by omega), f4 7 (by omega) (by omega), f7]; rfl
      · rw [a4 8 (by omega), f4 8 (by omega) (by omega), f3 8 (by omega)]; exact h9
      · rcases List.mem_cons.mp hg with q | q
        · rcases cb with w | w
          · right
            rw [q, w]
            decide
          · left
            rw [q, w]
        · exact hG g q
      · rw [a5 l x z, g4 l x, g3 l x]
  · rw [if_neg cb, if_neg (fun q => cb (Or.inl q)), if_neg (fun q => cb (Or.inr q))]
    unfold f_X2_takesName X2_takes_J57
    rw [bnd_eq, f3 8 (by omega), modb hbr, show μ 125 8 = nI u from h9]
    by_cases cn : (0 : Int32) ≤ sidx (nI u) b
    · obtain ⟨m1, a1, a2, a3, a4, a5⟩ := emit2 (μ := m3) (C := C) (by omega) (by rw [f3 1 (by omega)]; exact h1) (by rw [g3 126 (by omega)]; exact h2) (-1 - sidx (nI u) b)
      rw [if_pos cn, if_pos cn, a1, cal_some]
      refine Or.inr ⟨_, mset m1 125 6 0, rfl, rfl, ⟨?_, ?_, ?_, ?_, ?_, ?_, ?_, ?_, ?_, hG, by show 0 ≤ 4; omega⟩, fun l x y z => ?_⟩
      · rw [mset_ne (by omega)]; exact a2
      · rw [mset_row (by omega)]; exact a3
      · rw [mset_ne (by omega), a4 3 (by omega), f3 3 (by omega)]; exact h3
      · rw [mset_row (by omega), a5 127 (by omega) (by omega), g3 127 (by omega)]; exact h4
      · rw [mset_ne (by omega), a4 4 (by omega), f3 4 (by omega)]; exact h5
      · rw [mset_ne (by omega), a4 5 (by omega), f3 5 (by omega)]; exact h6
      · rw [mset_self]; rfl
      · rw [mset_ne (by omega), a4 7 (by omega), f7]; rfl
      · rw [mset_ne (by omega), a4 8 (by omega), f3 8 (by omega)]; exact h9
      · rw [mset_row x, a5 l x y, g3 l x]
    · rw [if_neg cn, if_neg cn]
      exact Or.inl ⟨rfl, m3, rfl, fr3⟩
theorem takesS {u : Nat} {μ : Mem} {C G : List Int32} {dg : Nat} (h : RSm u μ (C, G, false, dg)) (hb : C.length + G.length < 60) {b : Int32} (hd : ¬ ((48 : Int32) ≤ b ∧ b ≤ 57)) : (tk u (C, G, false, dg) b = none ∧ ∃ μ', f_X2_takes 125 b μ = some (0, μ') ∧ FrR μ μ') ∨ (∃ S' μ', tk u (C, G, false, dg) b = some S' ∧ f_X2_takes 125 b μ = some (1, μ') ∧ RSm u μ' S' ∧ FrR μ μ') := by
  obtain ⟨h1, h2, h3, h4, h5, h6, h7, h8, h9, hG, hdg⟩ := h
  have h1 : μ 125 1 = nI C.length := h1
  have h2 : pil (μ 126) C := h2
  have h3 : μ 125 3 = nI G.length := h3
  have h4 : pil (μ 127) G := h4
  have h5 : μ 125 4 = nI (cnt G) := h5
  have h6 : μ 125 5 = nI (cbr G) := h6
  have hG : GOk G := hG
  have hcn := cnt_le G
  obtain ⟨m3, hm3⟩ : ∃ m3, m3 = mset μ 125 7 0 := ⟨_, rfl⟩
  have f3 : ∀ f, f ≠ 7 → m3 125 f = μ 125 f := fun f hf => by rw [hm3]; exact mset_ne (by omega)
  have f7 : m3 125 7 = 0 := by rw [hm3]; exact mset_self
  have g3 : ∀ l, l ≠ 125 → m3 l = μ l := fun l hl => by rw [hm3]; exact mset_row hl
  have h7' : m3 125 6 = 0 := by rw [f3 6 (by omega)]; exact h7
  have fr3 : FrR μ m3 := fun l x _ _ => g3 l x
  have hT : f_X2_takes 125 b μ = (if b = 41 then cal (f_X2_closes 125 m3) (fun r6 m7 => X2_takes_J76 r6 m7) else cal (f_X2_takesSign 125 b m3) (fun r4 m5 => X2_takes_J76 r4 m5)) := by
    unfold f_X2_takes
    rw [within_eq, cal_some, b2_f hd, if_pos rfl, bnd_eq, ← hm3, h7', if_pos rfl]
  have hk : tk u (C, G, false, dg) b = (if b = 41 then (if cbr G = 0 then none else some ((relS 1 G C).2, (relS 1 G C).1.tail, false, 0)) else if lv b = 0 then none else if lv b = 3 ∧ hd3 (relS 4 G C).1 = true then none else some ((relS (if lv b = 3 then 4 else lv b) G C).2, b :: (relS (if lv b = 3 then 4 else lv b) G C).1, true, 0)) := by
    unfold tk
    rw [if_neg hd, if_neg (show ¬ ((C, G, false, dg) : RS).2.2.1 = true from Bool.false_ne_true)]
  rw [hk, hT]
  have k1 : m3 125 1 = nI C.length := by rw [f3 1 (by omega)]; exact h1
  have k2 : pil (m3 126) C := by rw [g3 126 (by omega)]; exact h2
  have k3 : m3 125 3 = nI G.length := by rw [f3 3 (by omega)]; exact h3
  have k4 : pil (m3 127) G := by rw [g3 127 (by omega)]; exact h4
  have k5 : m3 125 4 = nI (cnt G) := by rw [f3 4 (by omega)]; exact h5
  have k6 : m3 125 5 = nI (cbr G) := by rw [f3 5 (by omega)]; exact h6
  by_cases c41 : b = 41
  · rw [if_pos c41, if_pos c41]
    unfold f_X2_closes X2_takes_J76
    rw [k6]
    by_cases c0 : cbr G = 0
    · rw [if_pos c0, if_pos (show nI (cbr G) = 0 from by rw [c0]; rfl)]
      exact Or.inl ⟨rfl, m3, rfl, fr3⟩
    · rw [if_neg c0, if_neg (show ¬ nI (cbr G) = 0 from fun q => c0 ((eqI (x := 0) 0 rfl (by omega) (by omega)).mp q))]
      obtain ⟨m4, a1, a2, a3, a4, a5, a6, a7, a8⟩ := release2 (l := 1) (by omega) (by omega) (x := 1) rfl (by omega) k1 k2 k3 k4 k5
      have hcb := relS_cbr (l := 1) (by omega) G C
      have hlen := relS_len 1 G C
      have hmem := relS_mem (l := 1) G C
      rcases relS_stop 1 G C with q | ⟨g, R, hR, hlt⟩
      · rw [q] at hcb
        exact absurd hcb.symm c0
      · rw [hR] at hcb a4 a5 a6 hlen hmem
        have hg40 : g = 40 := by
          rcases hG g (hmem g (List.mem_cons_self ..)) with w | w
          · exact w
          · omega
        have hcR : cnt (g :: R) = cnt R + 1 := by
          show cnt R + (if g = 33 ∨ g = 40 then 1 else 0) = _
          rw [if_pos (Or.inr hg40)]
        have hbR : cbr G = cbr R + 1 := by
          rw [← hcb]
          show cbr R + (if g = 40 then 1 else 0) = _
          rw [if_pos hg40]
        have hRl := cnt_le R
        rw [List.length_cons] at a4 hlen
        rw [hcR] at a6
        have x4 : nI (R.length + 1) - 1 = nI R.length := by rw [nI_pred1 (by omega)]; rfl
        have x6 : nI (cnt R + 1) - 1 = nI (cnt R) := by rw [nI_pred1 (by omega)]; rfl
        have x5 : nI (cbr R + 1) - 1 = nI (cbr R) := by rw [nI_pred1 (by omega)]; rfl
        rw [a1, cal_some, bnd_eq, a4, x4]
        refine Or.inr ⟨_, mset (mset (mset m4 125 3 (nI R.length)) 125 5 (nI (cbr R))) 125 4 (nI (cnt R)), rfl, ?_, ?_, fun l x y z => ?_⟩
        · rw [bnd_eq, bnd_eq, mset_ne (show ¬ ((125 : Nat) = 125 ∧ 5 = 3) by omega), a7 5 (by omega) (by omega) (by omega), k6, hbR, x5, mset_ne (show ¬ ((125 : Nat) = 125 ∧ 4 = 5) by omega), mset_ne (show ¬ ((125 : Nat) = 125 ∧ 4 = 3) by omega), a6, x6]
          rfl
        · rw [hR]
          show RSm u _ ((relS 1 G C).2, R, false, 0)
          refine ⟨?_, ?_, ?_, ?_, mset_self, ?_, ?_, ?_, ?_, fun g' hg' => hG g' (hmem g' (List.mem_cons_of_mem _ hg')), by show 0 ≤ 4; omega⟩
          · rw [mset_ne (by omega), mset_ne (by omega), mset_ne (by omega)]; exact a2
          · rw [mset_row (by omega), mset_row (by omega), mset_row (by omega)]; exact a3
          · rw [mset_ne (by omega), mset_ne (by omega), mset_self]
          · rw [mset_row (by omega), mset_row (by omega), mset_row (by omega)]; exact pil_pop a5
          · rw [mset_ne (by omega), mset_self]
          · rw [mset_ne (by omega), mset_ne (by omega), mset_ne (by omega), a7 6 (by omega) (by omega) (by omega), h7']; rfl
          · rw [mset_ne (by omega), mset_ne (by omega), mset_ne (by omega), a7 7 (by omega) (by omega) (by omega), f7]; rfl
          · rw [mset_ne (by omega), mset_ne (by omega), mset_ne (by omega), a7 8 (by omega) (by omega) (by omega), f3 8 (by omega)]; exact h9
        · rw [mset_row x, mset_row x, mset_row x, a8 l x y, g3 l x]
  · rw [if_neg c41, if_neg c41]
    unfold f_X2_takesSign X2_takes_J76
    rw [levelOf2, cal_some]
    have hlv := lv_le b
    by_cases c0 : lv b = 0
    · rw [if_pos c0, if_pos (show nI (lv b) = 0 from by rw [c0]; rfl)]
      exact Or.inl ⟨rfl, m3, rfl, fr3⟩
    · rw [if_neg c0, if_neg (show ¬ nI (lv b) = 0 from fun q => c0 ((eqI (x := 0) 0 rfl (by omega) (by omega)).mp q))]
      have hJ : (if nI (lv b) = 3 then X2_takesSign_J24 125 b (nI (lv b)) 125 (nI (lv b) + 1) m3 else X2_takesSign_J24 125 b (nI (lv b)) 125 (nI (lv b)) m3) = X2_takesSign_J24 125 b (nI (lv b)) 125 (nI (if lv b = 3 then 4 else lv b)) m3 := by
        by_cases q : lv b = 3
        · rw [if_pos (show nI (lv b) = 3 from by rw [q]; rfl), if_pos q, q]
          rfl
        · rw [if_neg (show ¬ nI (lv b) = 3 from fun w => q ((eqI (x := 3) 3 rfl (by omega) (by omega)).mp w)), if_neg q]
      rw [hJ]
      obtain ⟨m4, a1, a2, a3, a4, a5, a6, a7, a8⟩ := release2 (l := if lv b = 3 then 4 else lv b) (by split <;> omega) (by split <;> omega) rfl (by omega) k1 k2 k3 k4 k5
      have hlen := relS_len (if lv b = 3 then 4 else lv b) G C
      have hmem := relS_mem (l := if lv b = 3 then 4 else lv b) G C
      have hcb := relS_cbr (l := if lv b = 3 then 4 else lv b) (by split <;> omega) G C
      unfold X2_takesSign_J24
      rw [a1, cal_some]
      have fr4 : FrR μ m4 := fun l x y z => by rw [a8 l x y, g3 l x]
      have hb33 : ¬ (b = 33 ∨ b = 40) := by
        rintro (q | q)
        · rw [q] at c0; exact c0 (by decide)
        · rw [q] at c0; exact c0 (by decide)
      have fin : ∃ m5, X2_takesSign_J59 125 b m4 = some (1, m5) ∧ RSm u m5 ((relS (if lv b = 3 then 4 else lv b) G C).2, b :: (relS (if lv b = 3 then 4 else lv b) G C).1, true, 0) ∧ FrR μ m5 := by
        obtain ⟨m5, b1, b2', b3, b4, b5⟩ := push2 (μ := m4) (G := (relS (if lv b = 3 then 4 else lv b) G C).1) (by omega) a4 a5 b
        refine ⟨mset m5 125 6 1, ?_, ⟨?_, ?_, ?_, ?_, ?_, ?_, ?_, ?_, ?_, fun g hg => ?_, by show 0 ≤ 4; omega⟩, fun l x y z => ?_⟩
        · unfold X2_takesSign_J59
          rw [b1, cal_some]
          rfl
        · rw [mset_ne (by omega), b4 1 (by omega)]; exact a2
        · rw [mset_row (by omega), b5 126 (by omega) (by omega)]; exact a3
        · rw [mset_ne (by omega), b2']; rfl
        · rw [mset_row (by omega)]; exact b3
        · rw [mset_ne (by omega), b4 4 (by omega), a6]
          show _ = nI (cnt (relS (if lv b = 3 then 4 else lv b) G C).1 + (if b = 33 ∨ b = 40 then 1 else 0))
          rw [if_neg hb33]
          rfl
        · rw [mset_ne (by omega), b4 5 (by omega), a7 5 (by omega) (by omega) (by omega), k6, ← hcb]
          show _ = nI (cbr (relS (if lv b = 3 then 4 else lv b) G C).1 + (if b = 40 then 1 else 0))
          rw [if_neg (fun q => hb33 (Or.inr q))]
          rfl
        · rw [mset_self]; rfl
        · rw [mset_ne (by omega), b4 7 (by omega), a7 7 (by omega) (by omega) (by omega), f7]; rfl
        · rw [mset_ne (by omega), b4 8 (by omega), a7 8 (by omega) (by omega) (by omega), f3 8 (by omega)]; exact h9
        · rcases List.mem_cons.mp hg with q | q
          · right
            rw [q]
            unfold bi
            split <;> omega
          · exact hG g (hmem g q)
        · rw [mset_row x, b5 l x z]
          exact fr4 l x y z
      obtain ⟨m5, b1, b2', b3⟩ := fin
      by_cases q3 : lv b = 3
      · have q3' : nI (lv b) = 3 := by rw [q3]; rfl
        rw [if_pos q3'] 
        rw [if_pos q3] at a4 a5 hlen
        cases hR : (relS 4 G C).1 with
        | nil =>
          rw [hR] at a4
          have hno : ¬ (lv b = 3 ∧ hd3 [] = true) := fun w => absurd w.2 (by decide)
          rw [if_neg hno, if_pos q3, if_pos (show m4 125 3 ≤ 0 from by rw [a4]; decide), b1, cal_some]
          rw [if_pos q3, hR] at b2'
          exact Or.inr ⟨_, m5, rfl, rfl, by rw [hR]; exact b2', b3⟩
        | cons g R =>
          rw [hR] at a4 a5 hlen
          rw [List.length_cons] at a4 hlen
          have ht : m4 127 R.length = g := pil_top a5
          have x4 : nI (R.length + 1) - 1 = nI R.length := by rw [nI_pred1 (by omega)]; rfl
          rw [a4, if_neg (fun w => absurd ((nI_le0 (k := R.length + 1) (by omega)).mp w) (by omega)), x4, inb_nI (by omega) (by omega), gd_t, clamp_nI (by omega), show (125 + 2 : Nat) = 127 from rfl, ht, levelOf2, cal_some]
          have hlg := lv_le g
          by_cases qg : lv g = 3
          · rw [if_pos (show lv b = 3 ∧ hd3 (g :: R) = true from ⟨q3, decide_eq_true qg⟩), if_pos (show nI (lv g) = 3 from by rw [qg]; rfl)]
            exact Or.inl ⟨rfl, m4, rfl, fr4⟩
          · rw [if_neg (show ¬ (lv b = 3 ∧ hd3 (g :: R) = true) from fun w => qg (of_decide_eq_true w.2)), if_neg (show ¬ nI (lv g) = 3 from fun w => qg ((eqI (x := 3) 3 rfl (by omega) (by omega)).mp w)), b1, cal_some]
            rw [if_pos q3, hR] at b2'
            rw [if_pos q3]
            exact Or.inr ⟨_, m5, rfl, rfl, by rw [hR]; exact b2', b3⟩
      · rw [if_neg (show ¬ nI (lv b) = 3 from fun w => q3 ((eqI (x := 3) 3 rfl (by omega) (by omega)).mp w)), if_neg (fun w => q3 w.1), b1, cal_some]
        exact Or.inr ⟨_, m5, rfl, rfl, b2', b3⟩
theorem takes2 {u : Nat} {μ : Mem} {S : RS} (h : RSm u μ S) (hb : S.1.length + S.2.1.length < 60) {b : Int32} (hbr : rg b 0 255) : (tk u S b = none ∧ ∃ μ', f_X2_takes 125 b μ = some (0, μ') ∧ FrR μ μ') ∨ (∃ S' μ', tk u S b = some S' ∧ f_X2_takes 125 b μ = some (1, μ') ∧ RSm u μ' S' ∧ FrR μ μ') := by
  obtain ⟨C, G, due, dg⟩ := S
  by_cases c : (48 : Int32) ≤ b ∧ b ≤ 57
  · exact takesD h hb c
  · cases due with
    | true => exact takesP h hb hbr c
    | false => exact takesS h hb c
end
