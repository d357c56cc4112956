/-! PURE 29: a move, customers from a sheet, sales that are judged, checks -/
section
theorem sub_toInt {a b : Int32} (h1 : 0 ≤ a.toInt) (h2 : 0 ≤ b.toInt) : (a - b).toInt = a.toInt - b.toInt := by
  have ha := a.toInt_lt
  have hb := b.toInt_lt
  rw [Int32.toInt_sub]
  exact Int.bmod_eq_of_le_mul_two (by omega) (by omega)
def hdl (L x n : Int32) : Prop := ¬ x < 0 ∧ ¬ n < 0 ∧ ¬ L < n ∧ ¬ L - n < x
theorem holds4 (a : Nat) (x n : Int32) (m : Mem) : (hdl (m a 1) x n ∧ f_X4_holds a x n m = some (1, m)) ∨ (¬ hdl (m a 1) x n ∧ f_X4_holds a x n m = some (0, m)) := by
  unfold f_X4_holds X4_holds_J30 X4_holds_J31 hdl
  by_cases c1 : x < 0
  · rw [if_pos c1]; exact Or.inr ⟨fun q => q.1 c1, rfl⟩
  by_cases c2 : n < 0
  · rw [if_neg c1, if_pos c2]; exact Or.inr ⟨fun q => q.2.1 c2, rfl⟩
  by_cases c3 : m a 1 < n
  · rw [if_neg c1, if_neg c2, if_pos c3]; exact Or.inr ⟨fun q => q.2.2.1 c3, rfl⟩
  by_cases c4 : m a 1 - n < x
  · rw [if_neg c1, if_neg c2, if_neg c3, if_pos c4]; exact Or.inr ⟨fun q => q.2.2.2 c4, rfl⟩
  · rw [if_neg c1, if_neg c2, if_neg c3, if_neg c4]; exact Or.inl ⟨⟨c1, c2, c3, c4⟩, rfl⟩
theorem hdl_nI {p : Nat} (hp : p ≤ 24) {x n : Int32} (h : hdl (nI p) x n) : ∃ i q, x = nI i ∧ n = nI q ∧ i + q ≤ p := by
  obtain ⟨h1, h2, h3, h4⟩ := h
  have a1 := Int32.le_iff_toInt_le.mp (Int32.not_lt.mp h1)
  have a2 := Int32.le_iff_toInt_le.mp (Int32.not_lt.mp h2)
  have a3 := Int32.le_iff_toInt_le.mp (Int32.not_lt.mp h3)
  have a4 := Int32.le_iff_toInt_le.mp (Int32.not_lt.mp h4)
  have z : (0 : Int32).toInt = 0 := by decide
  rw [z] at a1 a2
  rw [nI_toInt (by omega)] at a3
  rw [sub_toInt (by rw [nI_toInt (by omega)]; omega) a2, nI_toInt (by omega)] at a4
  obtain ⟨i, hi, e1⟩ := rg_nI (x := x) (n := p) ⟨a1, by omega⟩ (by omega)
  obtain ⟨q, hq, e2⟩ := rg_nI (x := n) (n := p) ⟨a2, by omega⟩ (by omega)
  refine ⟨i, q, e1, e2, ?_⟩
  rw [e1, e2, nI_toInt (by omega), nI_toInt (by omega)] at a4
  omega
theorem hdl_of {p : Nat} (hp : p ≤ 24) {x n : Int32} (h1 : ¬ x < 0) (h2 : ¬ n < 0) (h4 : ¬ nI p - n < x) : hdl (nI p) x n := by
  refine ⟨h1, h2, ?_, h4⟩
  have a1 := Int32.le_iff_toInt_le.mp (Int32.not_lt.mp h1)
  have a2 := Int32.le_iff_toInt_le.mp (Int32.not_lt.mp h2)
  have a4 := Int32.le_iff_toInt_le.mp (Int32.not_lt.mp h4)
  have z : (0 : Int32).toInt = 0 := by decide
  rw [z] at a1 a2
  rw [sub_toInt (by rw [nI_toInt (by omega)]; omega) a2, nI_toInt (by omega)] at a4
  refine Int32.not_lt.mpr (Int32.le_iff_toInt_le.mpr ?_)
  rw [nI_toInt (by omega)]
  omega
theorem i24b (k i j : Nat) : (24 : Int32) * nI k + nI i + nI j = nI (24 * k + i + j) := by
  rw [i24, nI_add]
theorem move152 {b j q : Nat} (hb : b < 4) (hj : j + q ≤ 24) : ∀ d i (μ : Mem) n, i + d = q → d < n → X9_move_L152 n 142 (nI b) (nI j) (nI q) (nI i) μ = some (nI q, sR μ 153 (fun t => if 24 * b + j + i ≤ t ∧ t < 24 * b + j + q then μ 154 (t - (24 * b + j)) else μ 153 t)) := by
  intro d
  induction d with
  | zero =>
    intro i μ n hi hn
    obtain ⟨n, rfl⟩ : ∃ m, n = m + 1 := ⟨n - 1, by omega⟩
    show X9_move_L152B _ 142 (nI b) (nI j) (nI q) (nI i) μ = _
    unfold X9_move_L152B
    rw [if_pos ((nI_leq (by omega) (by omega)).mpr (by omega))]
    have : (fun t => if 24 * b + j + i ≤ t ∧ t < 24 * b + j + q then μ 154 (t - (24 * b + j)) else μ 153 t) = μ 153 := funext (fun t => if_neg (by omega))
    rw [this, sR_id]
  | succ d ih =>
    intro i μ n hi hn
    obtain ⟨n, rfl⟩ : ∃ m, n = m + 1 := ⟨n - 1, by omega⟩
    show X9_move_L152B _ 142 (nI b) (nI j) (nI q) (nI i) μ = _
    unfold X9_move_L152B
    rw [if_neg (fun c => absurd ((nI_leq (by omega) (by omega)).mp c) (by omega)), inb_nI (k := i) (by omega) (by omega), gd_t, i24b, inb_nI (by omega) (by omega), gd_t, bnd_eq, bnd_eq, nI_s, clamp_nI (k := i) (by omega), clamp_nI (by omega), show (142 + 11 : Nat) = 153 from rfl, show (142 + 12 : Nat) = 154 from rfl, ih (i + 1) _ n (by omega) (by omega), mset_sR, sR_sR, sR_same, sR_ne (by omega)]
    have hf : (fun t => if 24 * b + j + (i + 1) ≤ t ∧ t < 24 * b + j + q then μ 154 (t - (24 * b + j)) else upd (μ 153) (24 * b + j + i) (μ 154 i) t) = (fun t => if 24 * b + j + i ≤ t ∧ t < 24 * b + j + q then μ 154 (t - (24 * b + j)) else μ 153 t) := by
      funext t
      by_cases e : t = 24 * b + j + i
      · rw [e, if_neg (by omega), if_pos (by omega), upd_same]
        congr 1
        omega
      · rw [upd_ne e]
        by_cases c : 24 * b + j + i ≤ t ∧ t < 24 * b + j + q
        · rw [if_pos c, if_pos (by omega)]
        · rw [if_neg c, if_neg (by omega)]
    rw [hf]
theorem move115 {a i b j q : Nat} (ha : a < 4) (hi : i + q ≤ 24) (hb : b < 4) (hj : j + q ≤ 24) : ∀ d s (μ : Mem) n, s + d = q → d < n → X9_move_L115 n 142 (nI a) (nI i) (nI b) (nI j) (nI q) (nI s) μ = X9_move_L152 FU 142 (nI b) (nI j) (nI q) 0 (sR μ 154 (fun t => if s ≤ t ∧ t < q then μ 153 (24 * a + i + t) else μ 154 t)) := by
  intro d
  induction d with
  | zero =>
    intro s μ n hs hn
    obtain ⟨n, rfl⟩ : ∃ m, n = m + 1 := ⟨n - 1, by omega⟩
    show X9_move_L115B _ 142 (nI a) (nI i) (nI b) (nI j) (nI q) (nI s) μ = _
    unfold X9_move_L115B
    rw [if_pos ((nI_leq (by omega) (by omega)).mpr (by omega))]
    have : (fun t => if s ≤ t ∧ t < q then μ 153 (24 * a + i + t) else μ 154 t) = μ 154 := funext (fun t => if_neg (by omega))
    rw [this, sR_id]
  | succ d ih =>
    intro s μ n hs hn
    obtain ⟨n, rfl⟩ : ∃ m, n = m + 1 := ⟨n - 1, by omega⟩
    show X9_move_L115B _ 142 (nI a) (nI i) (nI b) (nI j) (nI q) (nI s) μ = _
    unfold X9_move_L115B
    rw [if_neg (fun c => absurd ((nI_leq (by omega) (by omega)).mp c) (by omega)), i24b, inb_nI (k := 24 * a + i + s) (by omega) (by omega), gd_t, inb_nI (k := s) (by omega) (by omega), gd_t, bnd_eq, bnd_eq, nI_s, clamp_nI (k := s) (by omega), clamp_nI (by omega), show (142 + 11 : Nat) = 153 from rfl, show (142 + 12 : Nat) = 154 from rfl, ih (s + 1) _ n (by omega) (by omega), mset_sR, sR_sR, sR_same, sR_ne (by omega)]
    have hf : (fun t => if s + 1 ≤ t ∧ t < q then μ 153 (24 * a + i + t) else upd (μ 154) s (μ 153 (24 * a + i + s)) t) = (fun t => if s ≤ t ∧ t < q then μ 153 (24 * a + i + t) else μ 154 t) := by
      funext t
      by_cases e : t = s
      · rw [e, if_neg (by omega), if_pos (by omega), upd_same]
      · rw [upd_ne e]
        by_cases c : s ≤ t ∧ t < q
        · rw [if_pos c, if_pos (by omega)]
        · rw [if_neg c, if_neg (by omega)]
    rw [hf]
theorem moveOk {μ : Mem} (h : Rel μ) {a i b j q : Nat} (ha : a < 4) (hi : i + q ≤ 24) (hb : b < 4) (hj : j + q ≤ 24) {X : Res} {Y : Mem → Res} (hX : X = some (nI q, mcpy μ (135 + 2 * a) i (135 + 2 * b) j q)) (hY : ∀ m : Mem, m 151 = μ 151 → m 152 = μ 152 → Y m = X9_move_L115 FU 142 (nI a) (nI i) (nI b) (nI j) (nI q) 0 m) : Sm X Y := by
  generalize hm : mcpy μ (135 + 2 * a) i (135 + 2 * b) j q = m1 at hX
  have fo : ∀ l, l ≠ 135 + 2 * b → m1 l = μ l := fun l e => by
    rw [← hm]
    funext t
    exact if_neg e
  have fb : ∀ t, m1 (135 + 2 * b) t = if j ≤ t ∧ t < j + q then μ (135 + 2 * a) (i + (t - j)) else μ (135 + 2 * b) t := fun t => by
    rw [← hm]
    unfold mcpy va_cpy
    rw [if_pos rfl]
  have hq : q ≤ 24 := by omega
  have h1 := hY m1 (fo 151 (by omega)) (fo 152 (by omega))
  have h2 := move115 (a := a) (i := i) (b := b) (j := j) (q := q) ha hi hb hj q 0 m1 FU (by omega) (by rw [FU_eq]; omega)
  have h3 := move152 (b := b) (j := j) (q := q) hb hj q 0 (sR m1 154 (fun t => if 0 ≤ t ∧ t < q then m1 153 (24 * a + i + t) else m1 154 t)) FU (by omega) (by rw [FU_eq]; omega)
  rw [sR_same, sR_ne (show (153 : Nat) ≠ 154 by omega)] at h3
  generalize hm2 : sR (sR m1 154 (fun t => if 0 ≤ t ∧ t < q then m1 153 (24 * a + i + t) else m1 154 t)) 153 (fun t => if 24 * b + j + 0 ≤ t ∧ t < 24 * b + j + q then (if 0 ≤ t - (24 * b + j) ∧ t - (24 * b + j) < q then m1 153 (24 * a + i + (t - (24 * b + j))) else m1 154 (t - (24 * b + j))) else m1 153 t) = m2 at h3
  have fo2 : ∀ l, l ≠ 153 → l ≠ 154 → m2 l = m1 l := fun l a b => by rw [← hm2, sR_ne a, sR_ne b]
  refine ⟨nI q, m1, m2, hX, (h1.trans h2).trans h3, h.sh (fun l hl => by rw [fo2 l (by omega) (by omega), fo l (by omega)]) (fun s hs => ?_)⟩
  unfold ShOk
  rw [fo2 (134 + 2 * s) (by omega) (by omega), fo2 (135 + 2 * s) (by omega) (by omega), fo2 151 (by omega) (by omega), fo2 152 (by omega) (by omega), fo (134 + 2 * s) (by omega), fo 151 (by omega), fo 152 (by omega)]
  obtain ⟨x1, x2, x3, x4, x5⟩ := ShOk.at h hs
  obtain ⟨-, -, -, -, y5⟩ := ShOk.at h ha
  refine ⟨x1, x2, x3, x4, fun t ht => ?_⟩
  rw [← hm2, sR_same, fo 153 (by omega)]
  by_cases e : s = b
  · subst e
    rw [fb t]
    by_cases c : j ≤ t ∧ t < j + q
    · rw [if_pos c, if_pos (by omega), if_pos (by omega), y5 _ (by omega)]
      congr 1
      omega
    · rw [if_neg c, if_neg (by omega)]
      exact x5 t ht
  · rw [fo _ (by omega), if_neg (by omega)]
    exact x5 t ht
theorem cpok_i {i j q : Nat} (h1 : i + q ≤ 24) (h2 : j + q ≤ 24) : cpok (nI i) (nI j) (nI q) 24 24 = true := by
  unfold cpok
  rw [clamp_nI (by omega), clamp_nI (by omega), clamp_nI (by omega), decide_eq_true (nI_neg (by omega)), decide_eq_true (nI_neg (by omega)), decide_eq_true (nI_neg (by omega)), decide_eq_true h1, decide_eq_true h2]
  rfl
theorem sim_move {μ : Mem} (h : Rel μ) (x y z u v : Int32) : Sm (f_X8_move 0 x y z u v μ) (f_X9_move 142 x y z u v) := by
  by_cases c1 : (0 : Int32) ≤ x ∧ x ≤ 3
  · by_cases c2 : (0 : Int32) ≤ z ∧ z ≤ 3
    · obtain ⟨a, -, ha, e1⟩ := lit_rg 0 3 rfl rfl (by omega) (by omega) c1
      obtain ⟨b, -, hb, e2⟩ := lit_rg 0 3 rfl rfl (by omega) (by omega) c2
      obtain ⟨s1, s2, s3, s4, s5⟩ := ShOk.at h (i := a) (by omega)
      obtain ⟨t1, t2, t3, t4, t5⟩ := ShOk.at h (i := b) (by omega)
      obtain ⟨p1, p2⟩ := rg_clamp (n := 24) s4 (by omega)
      obtain ⟨r1, r2⟩ := rg_clamp (n := 24) t4 (by omega)
      have hX0 : f_X8_move 0 x y z u v μ = if μ 151 a = 0 then X8_move_J52 0 μ else if μ 151 b = 0 then X8_move_J52 0 μ else if μ 151 a = μ 151 b then cal (f_X4_holds (134 + 2 * a) y v μ) (fun r11 m12 => (if r11 = 0 then X8_move_J100 0 m12 else cal (f_X4_holds (134 + 2 * b) u v m12) (fun r13 m14 => (if r13 = 0 then X8_move_J100 0 m14 else gd (cpok y u v 24 24) (bnd (mcpy m14 (134 + 2 * a + 1) y.toNatClampNeg (134 + 2 * b + 1) u.toNatClampNeg v.toNatClampNeg) (fun m15 => some (v, m15))))))) else cal (f_X8_error 0 5 μ) (fun r16 m17 => some (r16, m17)) := by
        unfold f_X8_move
        simp only [Nat.zero_add]
        rw [isSheet8, cal_some, b2_t c1, if_neg (by decide), isSheet8, cal_some, b2_t c2, if_neg (by decide), e1, e2, inb_nI (k := a) (by omega) (by omega), gd_t, inb_nI (k := b) (by omega) (by omega), gd_t, clamp_nI (k := a) (by omega), clamp_nI (k := b) (by omega), locS, locS, missing4, cal_some, s1]
        by_cases q1 : μ 151 a = 0
        · rw [b2_t q1, if_neg (by decide), if_pos q1]
        · rw [b2_f q1, if_pos rfl, if_neg q1, missing4, cal_some, t1]
          by_cases q2 : μ 151 b = 0
          · rw [b2_t q2, if_neg (by decide), if_pos q2]
          · rw [b2_f q2, if_pos rfl, if_neg q2, s1]
      have hY0 : ∀ m : Mem, m 151 = μ 151 → m 152 = μ 152 → f_X9_move 142 x y z u v m = if μ 151 a = 0 then X9_move_J38 142 m else if μ 151 b = 0 then X9_move_J38 142 m else if μ 151 a = μ 151 b then (if v < 0 then X9_move_J106 142 m else (if y < 0 then X9_move_J106 142 m else (if u < 0 then X9_move_J106 142 m else (if μ 152 a - v < y then X9_move_J106 142 m else (if u ≤ μ 152 b - v then X9_move_L115 FU 142 x y z u v 0 m else X9_move_J106 142 m))))) else cal (f_X9_error 142 5 m) (fun r5 m6 => some (r5, m6)) := by
        intro m e151 e152
        unfold f_X9_move
        rw [isSheet9, cal_some, b2_t c1, if_neg (by decide), isSheet9, cal_some, b2_t c2, if_neg (by decide), e1, e2, inb_nI (k := a) (by omega) (by omega), gd_t, inb_nI (k := b) (by omega) (by omega), gd_t, clamp_nI (k := a) (by omega), clamp_nI (k := b) (by omega), show (142 + 9 : Nat) = 151 from rfl, show (142 + 10 : Nat) = 152 from rfl, e151, e152, gd_t, gd_t, gd_t, gd_t]
      by_cases q1 : μ 151 a = 0
      · rw [if_pos q1] at hX0
        refine Sm.er h (k := 2) (by omega) ?_ (fun m e f => ?_)
        · rw [hX0]
          exact cal_e _
        · rw [hY0 m (er_at f (Or.inl (by unfold oc; omega)) (by omega)) (er_at f (Or.inl (by unfold oc; omega)) (by omega)), if_pos q1]
          exact cal_e _
      by_cases q2 : μ 151 b = 0
      · rw [if_neg q1, if_pos q2] at hX0
        refine Sm.er h (k := 2) (by omega) ?_ (fun m e f => ?_)
        · rw [hX0]
          exact cal_e _
        · rw [hY0 m (er_at f (Or.inl (by unfold oc; omega)) (by omega)) (er_at f (Or.inl (by unfold oc; omega)) (by omega)), if_neg q1, if_pos q2]
          exact cal_e _
      by_cases q3 : μ 151 a = μ 151 b
      · rw [if_neg q1, if_neg q2, if_pos q3] at hX0
        have hno : (¬ hdl (μ 152 a) y v ∨ ¬ hdl (μ 152 b) u v) → Sm (f_X8_move 0 x y z u v μ) (f_X9_move 142 x y z u v) := by
          intro hn
          refine Sm.er h (k := 1) (by omega) ?_ (fun m e f => ?_)
          · rw [hX0]
            rcases holds4 (134 + 2 * a) y v μ with ⟨w1, w2⟩ | ⟨w1, w2⟩
            · rw [w2, cal_some, if_neg (by decide)]
              rcases holds4 (134 + 2 * b) u v μ with ⟨w3, w4⟩ | ⟨w3, w4⟩
              · rw [s2] at w1
                rw [t2] at w3
                exact absurd hn (by rintro (o | o); exact o w1; exact o w3)
              · rw [w4, cal_some, if_pos rfl]
                exact cal_e _
            · rw [w2, cal_some, if_pos rfl]
              exact cal_e _
          · rw [hY0 m (er_at f (Or.inl (by unfold oc; omega)) (by omega)) (er_at f (Or.inl (by unfold oc; omega)) (by omega)), if_neg q1, if_neg q2, if_pos q3]
            by_cases v1 : v < 0
            · rw [if_pos v1]; exact cal_e _
            by_cases v2 : y < 0
            · rw [if_neg v1, if_pos v2]; exact cal_e _
            by_cases v3 : u < 0
            · rw [if_neg v1, if_neg v2, if_pos v3]; exact cal_e _
            by_cases v4 : μ 152 a - v < y
            · rw [if_neg v1, if_neg v2, if_neg v3, if_pos v4]; exact cal_e _
            by_cases v5 : u ≤ μ 152 b - v
            · exfalso
              rw [p2] at v4
              rw [r2] at v5
              have g1 := hdl_of p1 v2 v1 v4
              have g2 := hdl_of r1 v3 v1 (Int32.not_lt.mpr v5)
              rw [← p2] at g1
              rw [← r2] at g2
              rcases hn with o | o
              · exact o g1
              · exact o g2
            · rw [if_neg v1, if_neg v2, if_neg v3, if_neg v4, if_neg v5]; exact cal_e _
        by_cases g1 : hdl (μ 152 a) y v
        · by_cases g2 : hdl (μ 152 b) u v
          · have k1 := g1
            have k2 := g2
            rw [p2] at k1
            rw [r2] at k2
            obtain ⟨i, q, f1, f2, f3⟩ := hdl_nI p1 k1
            obtain ⟨j, q', f4, f5, f6⟩ := hdl_nI r1 k2
            have hqq : q = q' := nI_inj (f2.symm.trans f5) (by omega) (by omega)
            subst hqq
            refine moveOk h (a := a) (i := i) (b := b) (j := j) (q := q) (by omega) (by omega) (by omega) (by omega) ?_ (fun m e151 e152 => ?_)
            · rw [hX0]
              rcases holds4 (134 + 2 * a) y v μ with ⟨w1, w2⟩ | ⟨w1, w2⟩
              · rw [w2, cal_some, if_neg (by decide)]
                rcases holds4 (134 + 2 * b) u v μ with ⟨w3, w4⟩ | ⟨w3, w4⟩
                · rw [w4, cal_some, if_neg (by decide), f1, f2, f4, cpok_i (by omega) (by omega), gd_t, bnd_eq, clamp_nI (by omega), clamp_nI (by omega), clamp_nI (by omega), locT, locT]
                · rw [t2] at w3
                  exact absurd g2 w3
              · rw [s2] at w1
                exact absurd g1 w1
            · rw [hY0 m e151 e152, if_neg q1, if_neg q2, if_pos q3, if_neg g1.2.1, if_neg g1.1, if_neg g2.1, if_neg g1.2.2.2, if_pos (Int32.not_lt.mp g2.2.2.2), e1, e2, f1, f2, f4]
          · exact hno (Or.inr g2)
        · exact hno (Or.inl g1)
      · rw [if_neg q1, if_neg q2, if_neg q3] at hX0
        refine Sm.er h (k := 5) (by omega) ?_ (fun m e f => ?_)
        · rw [hX0]
          exact cal_e _
        · rw [hY0 m (er_at f (Or.inl (by unfold oc; omega)) (by omega)) (er_at f (Or.inl (by unfold oc; omega)) (by omega)), if_neg q1, if_neg q2, if_neg q3]
          exact cal_e _
    · refine Sm.er h (k := 1) (by omega) ?_ (fun m e _ => ?_)
      · unfold f_X8_move
        rw [isSheet8, cal_some, b2_t c1, if_neg (by decide), isSheet8, cal_some, b2_f c2, if_pos rfl]
        exact cal_e _
      · unfold f_X9_move
        rw [isSheet9, cal_some, b2_t c1, if_neg (by decide), isSheet9, cal_some, b2_f c2, if_pos rfl]
        exact cal_e _
  · refine Sm.er h (k := 1) (by omega) ?_ (fun m e _ => ?_)
    · unfold f_X8_move
      rw [isSheet8, cal_some, b2_f c1, if_pos rfl]
      exact cal_e _
    · unfold f_X9_move
      rw [isSheet9, cal_some, b2_f c1, if_pos rfl]
      exact cal_e _
end
