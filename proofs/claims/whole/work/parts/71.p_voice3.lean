/-! PURE 36: a voice, both -/
section
theorem Rel.tr {μ μ2 : Mem} (h : Rel μ) (he : ∀ l, l ≠ 128 → l ≠ 129 → l ≠ 142 → l ≠ 150 → l ≠ 133 → l ≠ 146 → μ2 l = μ l) (h3 : μ2 142 3 = μ 142 3) (her : ErOk μ2) (htr : TrOk μ2) : Rel μ2 := by
  obtain ⟨h1, h2, ⟨⟨i1, i2⟩, -, -, i7⟩⟩ := h
  have e : ∀ l, l < 128 ∨ (142 < l ∧ l < 146) → μ2 l = μ l := fun l hl => he l (by omega) (by omega) (by omega) (by omega) (by omega) (by omega)
  have e143 := e 143 (by omega)
  refine ⟨?_, by rw [e143]; exact h2, ⟨⟨?_, fun hn => ?_⟩, her, htr, fun i hi => ?_⟩⟩
  · rw [e143]
    exact h1.fr h2 (fun l a b => e l (by omega))
  · rw [e 0 (by omega), h3]
    exact i1
  · rw [h3] at hn
    rw [e 144 (by omega)]
    exact ⟨(i2 hn).1.fr (i2 hn).2 (fun l a b => e l (by omega)), (i2 hn).2⟩
  · have := i7 i hi
    unfold ShOk at this ⊢
    rw [he (134 + 2 * i) (by omega) (by omega) (by omega) (by omega) (by omega) (by omega), he (135 + 2 * i) (by omega) (by omega) (by omega) (by omega) (by omega) (by omega), he 151 (by omega) (by omega) (by omega) (by omega) (by omega) (by omega), he 152 (by omega) (by omega) (by omega) (by omega) (by omega) (by omega), he 153 (by omega) (by omega) (by omega) (by omega) (by omega) (by omega)]
    exact this
theorem voiceOk {μ : Mem} (h : Rel μ) {s : Nat} {κ m k p r : Int32} {T : List Int32} (hT : T.length ≤ 30) (hp : p = 0 ∨ p = 1) {X : Res} {Y : Mem → Res} {YV : Mem → Res} {μ1 : Mem} (hC : CS μ μ1 κ m k T p) (hX : X = if μ1 128 2 = 0 then some (r, μ1) else cal (f_X8_error 0 6 μ1) (fun r8 m9 => some (r8, m9))) (hM : ∀ m0 m : Mem, MS m0 m (μ 143) s [] 0 → ∃ m', YV m = some (r, m') ∧ MS m0 m' (μ 143) s T p) (hY : ∀ m : Mem, m 143 = μ 143 → Y m = cal (YV (mset (mset (mset m 142 13 0) 142 14 (nI s)) 142 15 0)) (fun r m => X9_voice_J95 142 r m)) : Sm X Y := by
  obtain ⟨c1, c2, c3, c4, c5, c6, c7⟩ := hC
  have start : ∀ m : Mem, m 143 = μ 143 → MS m (mset (mset (mset m 142 13 0) 142 14 (nI s)) 142 15 0) (μ 143) s [] 0 := by
    intro m e
    refine ⟨?_, ?_, mset_self, by rw [mset_row (by omega), mset_row (by omega), mset_row (by omega)]; exact e, fun j hj => absurd hj (by simp), fun l a b => by rw [mset_row a, mset_row a, mset_row a], fun f a b c => by rw [mset_ne (by omega), mset_ne (by omega), mset_ne (by omega)]⟩
    · rw [mset_ne (by omega), mset_ne (by omega), mset_self]; rfl
    · rw [mset_ne (by omega), mset_self]
  rcases hp with rfl | rfl
  · rw [c2, if_pos rfl] at hX
    have e143 : μ1 143 = μ 143 := c7 143 (by omega) (by omega)
    obtain ⟨m2, y1, d1, d2, d3, d4, d5, d6, d7⟩ := hM μ1 _ (start μ1 e143)
    refine ⟨r, μ1, m2, hX, ?_, h.tr (fun l a b c d _ _ => by rw [d6 l c d, c7 l a b]) (by rw [d7 3 (by omega) (by omega) (by omega), c7 142 (by omega) (by omega)]) (fun j hj => ?_) ⟨?_, ?_, fun j hj => ?_⟩⟩
    · rw [hY μ1 e143, y1, cal_some]
      unfold X9_voice_J95 X9_voice_J115
      rw [d3, if_pos rfl]
    · rw [d6 133 (by omega) (by omega), d6 146 (by omega) (by omega), c7 133 (by omega) (by omega), c7 146 (by omega) (by omega)]
      exact h.2.2.2.1 j hj
    · rw [d6 128 (by omega) (by omega), c1, d1]
    · rw [d1]
      exact nI_rg (n := 30) hT (by omega)
    · rw [d1, clamp_nI (by omega)] at hj
      rw [d6 129 (by omega) (by omega), c6 j hj, d5 j hj]
  · rw [c2, if_neg (by decide)] at hX
    have hX2 := hX.trans ((cal_e _).trans (error8 (k := 6) (by omega) μ1))
    generalize hm : sR μ1 133 (erN (μ1 133) 6) = m1 at hX2
    have f1 : ∀ l, l ≠ 133 → m1 l = μ1 l := fun l a => by rw [← hm]; exact sR_ne a
    have f133 : m1 133 = erN (μ1 133) 6 := by rw [← hm]; exact sR_same _ _ _
    have e143 : m1 143 = μ 143 := by rw [f1 143 (by omega)]; exact c7 143 (by omega) (by omega)
    obtain ⟨m2, y1, d1, d2, d3, d4, d5, d6, d7⟩ := hM m1 _ (start m1 e143)
    have er := error9 (k := 6) (by omega) m2
    generalize hm3 : sR m2 146 (erN (m2 146) 6) = m3 at er
    have f3 : ∀ l, l ≠ 146 → m3 l = m2 l := fun l a => by rw [← hm3]; exact sR_ne a
    have f146 : m3 146 = erN (m2 146) 6 := by rw [← hm3]; exact sR_same _ _ _
    refine ⟨_, m1, m3, hX2, ?_, h.tr (fun l a b c d e f => by rw [f3 l f, d6 l c d, f1 l e, c7 l a b]) (by rw [f3 142 (by omega), d7 3 (by omega) (by omega) (by omega), f1 142 (by omega), c7 142 (by omega) (by omega)]) (fun j hj => ?_) ⟨?_, ?_, fun j hj => ?_⟩⟩
    · rw [hY m1 e143, y1, cal_some]
      unfold X9_voice_J95 X9_voice_J115
      rw [d3, if_neg (by decide)]
      exact (cal_e _).trans er
    · rw [f3 133 (by omega), d6 133 (by omega) (by omega), f133, f146, d6 146 (by omega) (by omega), f1 146 (by omega), c7 133 (by omega) (by omega), c7 146 (by omega) (by omega)]
      unfold erN
      have i3 := h.2.2.2.1
      by_cases q : j = 6
      · rw [q, upd_same, upd_same, i3 6 (by omega)]
      · rw [upd_ne q, upd_ne q]
        exact i3 j hj
    · rw [f3 128 (by omega), f3 142 (by omega), d6 128 (by omega) (by omega), f1 128 (by omega), c1, d1]
    · rw [f3 142 (by omega), d1]
      exact nI_rg (n := 30) hT (by omega)
    · rw [f3 142 (by omega), d1, clamp_nI (by omega)] at hj
      rw [f3 129 (by omega), f3 150 (by omega), d6 129 (by omega) (by omega), f1 129 (by omega), c6 j hj, d5 j hj]
theorem oT_len : ∀ q, q ≤ 6 → (sT q).length ≤ 30 ∧ (fT q q).length ≤ 28 ∧ (oT q q).length ≤ 30 := by decide
theorem sim_voice {μ : Mem} (h : Rel μ) (x y z : Int32) : Sm (f_X8_voice 0 x y z μ) (f_X9_voice 142 x y z) := by
  obtain ⟨h1, h2, h3⟩ := id h
  have h6 := h2.n6
  by_cases c1 : (0 : Int32) ≤ x ∧ x ≤ μ 143 0 - 1
  · by_cases c2 : (0 : Int32) ≤ y ∧ y ≤ 3
    · obtain ⟨s, hs, e1⟩ := h2.sh c1
      obtain ⟨v, -, hv, e2⟩ := lit_rg 0 3 rfl rfl (by omega) (by omega) c2
      obtain ⟨q, hq, ek⟩ := rg_nI (n := 6) (h2.shop s hs).1 (by omega)
      obtain ⟨m0, hm0⟩ : ∃ m0, m0 = mset (mset (mset (mset (mset μ 128 3 (nI q)) 128 4 (μ 143 (17 + 21 * s))) 128 5 (nI s)) 128 1 0) 128 2 0 := ⟨_, rfl⟩
      have hs0 : CS μ m0 (nI q) (μ 143 (17 + 21 * s)) (nI s) [] 0 := by
        rw [hm0]
        refine ⟨?_, mset_self, ?_, ?_, ?_, fun j hj => absurd hj (by simp), fun l a b => by rw [mset_row a, mset_row a, mset_row a, mset_row a, mset_row a]⟩
        · rw [mset_ne (by omega), mset_self]; rfl
        · rw [mset_ne (by omega), mset_ne (by omega), mset_ne (by omega), mset_ne (by omega), mset_self]
        · rw [mset_ne (by omega), mset_ne (by omega), mset_ne (by omega), mset_self]
        · rw [mset_ne (by omega), mset_ne (by omega), mset_self]
      have hX : f_X8_voice 0 x y z μ = cal (f_X6_say RF 128 (nI q) (nI v) z (nI 0) m0) (fun r6 m7 => (if m7 128 2 = 0 then some (r6, m7) else cal (f_X8_error 0 6 m7) (fun r8 m9 => some (r8, m9)))) := by
        unfold f_X8_voice X8_voice_J68 f_X6_speak
        simp only [Nat.zero_add]
        rw [hasShop7 h1, cal_some, b2_t c1, if_neg (by decide), within_eq, cal_some, b2_t c2, if_neg (by decide), e1, e2, inb_nI (by omega) (by omega), gd_t, clamp_nI (by omega), locA, bnd_eq, bnd_eq, bnd_eq, bnd_eq, show isb (0 : Int32) = true from rfl, gd_t, bnd_eq, mset_row (show 1 + 7 + 3 * s ≠ 128 by omega), rd_kind h1 h2 hs, rd_m h1 h2 hs, ek, ← hm0, hs0.2.2.1]
        have : (fun (r6 : Int32) (m7 : Mem) => some (r6, m7)) = fun r6 m7 => some (r6, m7) := rfl
        rw [cal_e]
        rfl
      have hY : ∀ m : Mem, m 143 = μ 143 → f_X9_voice 142 x y z m = (if nI v = 0 then cal (f_X9_sellsBy RF 142 (nI q) z (mset (mset (mset m 142 13 0) 142 14 (nI s)) 142 15 0)) (fun r m => X9_voice_J95 142 r m) else if nI v = 1 then cal (f_X9_fillsBy RF 142 (nI q) z (mset (mset (mset m 142 13 0) 142 14 (nI s)) 142 15 0)) (fun r m => X9_voice_J95 142 r m) else if nI v = 2 then cal (f_X9_owesBy RF 142 (nI q) z (mset (mset (mset m 142 13 0) 142 14 (nI s)) 142 15 0)) (fun r m => X9_voice_J95 142 r m) else cal (f_X9_partsBy RF 142 (nI q) z (mset (mset (mset m 142 13 0) 142 14 (nI s)) 142 15 0)) (fun r m => X9_voice_J95 142 r m)) := by
        intro m e
        have hk : f_X9_kindNow 142 (mset (mset (mset m 142 13 0) 142 14 (nI s)) 142 15 0) = some (nI q, mset (mset (mset m 142 13 0) 142 14 (nI s)) 142 15 0) := by
          unfold f_X9_kindNow
          rw [show mset (mset (mset m 142 13 0) 142 14 (nI s)) 142 15 0 142 14 = nI s from by rw [mset_ne (by omega), mset_self], its9_0 (by omega), cal_some, mset_row (by omega), mset_row (by omega), mset_row (by omega), e, ek]
        unfold f_X9_voice
        rw [isShop9 e, cal_some, b2_t c1, if_neg (by decide), in_eq, cal_some, b2_t c2, if_neg (by decide), bnd_eq, bnd_eq, show isb (0 : Int32) = true from rfl, gd_t, bnd_eq, e1, e2, hk, cal_some]
      have hl := oT_len q hq
      rcases (show v = 0 ∨ v = 1 ∨ v = 2 ∨ v = 3 by omega) with rfl | rfl | rfl | rfl
      · obtain ⟨μ1, a1, a2⟩ := c_sell hq z μ m0 [] 0 RF (by decide) (by omega) (by simp; omega) hs0
        rw [a1, cal_some] at hX
        exact voiceOk h hl.1 (Or.inl rfl) a2 hX (fun m0 m hm => d_sell hq z m0 m [] RF (by decide) (by simp; omega) hm) (fun m e => by rw [hY m e, if_pos (by decide)])
      · obtain ⟨μ1, a1, a2⟩ := c_fill hq hq z μ m0 [] 0 RF (by decide) (by omega) (by simp; omega) hs0
        rw [a1, cal_some] at hX
        exact voiceOk h (by omega : (fT q q).length ≤ 30) (Or.inl rfl) a2 hX (fun m0 m hm => d_fill hq hq (by omega) ek z m0 m [] RF (by decide) (by simp; omega) hm) (fun m e => by rw [hY m e, if_neg (by decide), if_pos (by decide)])
      · obtain ⟨μ1, a1, a2⟩ := c_owe hq hq z μ m0 [] 0 RF (by decide) (by omega) (by simp; omega) hs0
        rw [a1, cal_some] at hX
        exact voiceOk h hl.2.2 (Or.inl rfl) a2 hX (fun m0 m hm => d_owe hq hq (by omega) ek z m0 m [] RF (by decide) (by simp; omega) hm) (fun m e => by rw [hY m e, if_neg (by decide), if_neg (by decide), if_pos (by decide)])
      · obtain ⟨μ1, a1, a2⟩ := c_part hq z hs0
        rw [a1, cal_some] at hX
        have hz : pZ (μ 143 (17 + 21 * s)) (nI s) = 0 ∨ pZ (μ 143 (17 + 21 * s)) (nI s) = 1 := by
          unfold pZ
          split
          · exact Or.inr rfl
          · exact Or.inl rfl
        have hpl : (pT (nI s) (μ 143 (17 + 21 * s)) q q).length ≤ 30 := by
          unfold pT
          split
          · split
            · simp
            · simp; omega
          · simp
        exact voiceOk h hpl hz a2 hX (fun m0 m hm => d_part hq (by omega) ek z hm) (fun m e => by rw [hY m e, if_neg (by decide), if_neg (by decide), if_neg (by decide)])
    · refine Sm.er h (k := 1) (by omega) ?_ (fun m e _ => ?_)
      · unfold f_X8_voice X8_voice_J20
        simp only [Nat.zero_add]
        rw [hasShop7 h1, cal_some, b2_t c1, if_neg (by decide), within_eq, cal_some, b2_f c2, if_pos rfl]
        exact cal_e _
      · unfold f_X9_voice X9_voice_J17
        rw [isShop9 e, cal_some, b2_t c1, if_neg (by decide), in_eq, cal_some, b2_f c2, if_pos rfl]
        exact cal_e _
  · refine Sm.er h (k := 1) (by omega) ?_ (fun m e _ => ?_)
    · unfold f_X8_voice X8_voice_J20
      simp only [Nat.zero_add]
      rw [hasShop7 h1, cal_some, b2_f c1, if_pos rfl]
      exact cal_e _
    · unfold f_X9_voice X9_voice_J17
      rw [isShop9 e, cal_some, b2_f c1, if_pos rfl]
      exact cal_e _
end
