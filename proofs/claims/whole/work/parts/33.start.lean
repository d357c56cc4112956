/-! THE START: the cells that were made are the world of the first memory -/
def mst : Mem := fun l i => ivA ((EDL.getD l (0, [])).2.getD i (.int 0))
def okF (ci l k : Nat) (v : Value) : Bool := match fk ci k with
  | 0 => (match v with
    | .int _ => true
    | _ => false)
  | 1 => decide (v = .long 0)
  | n + 2 => decide (v = .ref (l + n))
def okE (q : (Nat × List Value) × Nat) : Bool := decide (q.1.1 = tg q.2) &&
  (if q.1.1 < 10 then decide (q.1.2.length = nf q.1.1) && (List.range (nf q.1.1)).all (fun k => okF q.1.1 q.2 k (q.1.2.getD k .null))
   else if q.1.1 < 100 then decide (q.1.2.length = an q.1.1) && (List.range (an q.1.1)).all (fun i => decide (q.1.2.getD i .null = .ref (q.2 + aa q.1.1 + ab q.1.1 * i)))
   else decide (q.1.2.length = q.1.1 - 100 ∧ 100 ≤ q.1.1))
theorem ED_ok : EDL.zipIdx.all okE = true := by decide +kernel
theorem ED_at {l : Nat} (h : l < NL) : ∃ e, EDL[l]? = some e ∧ okE (e, l) = true := by
  have hl : l < EDL.length := by rw [ED_len.1]; exact h
  refine ⟨EDL[l], List.getElem?_eq_getElem hl, ?_⟩
  refine List.all_eq_true.mp ED_ok _ ?_
  rw [List.mem_zipIdx_iff_getElem?]
  exact List.getElem?_eq_getElem hl
theorem ofFn_congr {N : Nat} {f g : Nat → Value} {c : ClassId} (h : ∀ i, i < N → f i = g i) : arrV c N f = arrV c N g := by
  unfold arrV
  congr 1
  exact congrArg _ (funext fun j => h j.val j.isLt)
theorem ce_ent {Ω : OT} {l : Nat} (hl : l < NL) {H : Heap} (h : va_at (oD Ω) cls10 (oF Ω l, ceE Ω (EDL.getD l (0, []))) H) : va_at (oD Ω) cls10 (oF Ω l, ent Ω mst l) H := by
  obtain ⟨e, he, hok⟩ := ED_at hl
  have hg : EDL.getD l (0, []) = e := by rw [List.getD_eq_getElem?_getD, he]; rfl
  have hm : ∀ i, mst l i = ivA (e.2.getD i (.int 0)) := fun i => by unfold mst; rw [hg]
  rw [hg] at h
  obtain ⟨t, vs⟩ := e
  unfold okE at hok
  rw [Bool.and_eq_true] at hok
  have ht : t = tg l := of_decide_eq_true hok.1
  have h2 := hok.2
  by_cases h10 : t < 10
  · rw [if_pos h10, Bool.and_eq_true] at h2
    have hlen : vs.length = nf t := of_decide_eq_true h2.1
    have hall := List.all_eq_true.mp h2.2
    rw [ent_obj Ω mst ht.symm h10]
    rw [ceE_obj Ω vs h10] at h
    have : vs.map (cvA Ω) = (List.range (nf t)).map (fv Ω t l mst) := by
      apply List.ext_getElem?
      intro k
      by_cases hk : k < nf t
      · have hok := hall k (List.mem_range.mpr hk)
        rw [List.getElem?_map, List.getElem?_map, List.getElem?_range hk]
        have hv : vs[k]? = some (vs.getD k .null) := by
          rw [List.getD_eq_getElem?_getD, List.getElem?_eq_getElem (by omega)]
          rfl
        rw [hv]
        show some _ = some _
        congr 1
        unfold okF at hok
        unfold fv
        have hmk : mst l k = ivA (vs.getD k .null) := by
          rw [hm k]
          show ivA (vs.getD k (.int 0)) = _
          rw [List.getD_eq_getElem?_getD, List.getD_eq_getElem?_getD, List.getElem?_eq_getElem (by omega)]
          rfl
        rw [hmk]
        revert hok
        generalize vs.getD k .null = v
        cases fk t k with
        | zero => cases v <;> intro hok <;> first | rfl | cases hok
        | succ n =>
          cases n with
          | zero =>
            intro hok
            have : v = .long 0 := of_decide_eq_true hok
            subst this
            rfl
          | succ n =>
            intro hok
            have : v = .ref (l + n) := of_decide_eq_true hok
            subst this
            rfl
      · rw [List.getElem?_eq_none (by simpa using by omega), List.getElem?_eq_none (by simpa using by omega)]
    rw [this] at h
    exact h
  · rw [if_neg h10] at h2
    by_cases h100 : t < 100
    · rw [if_pos h100, Bool.and_eq_true] at h2
      have hlen : vs.length = an t := of_decide_eq_true h2.1
      have hall := List.all_eq_true.mp h2.2
      rw [ent_ref Ω mst ht.symm (by omega) h100]
      rw [ceE_ref Ω vs (by omega) h100] at h
      have h3 : H[oF Ω l]? = some (vp_cell (oC Ω (t - 9)) (vs.length, .inr (.inr (.inr (.inr (fun i => rfA Ω (vs.getD i .null))))))) := h
      show H[oF Ω l]? = some (vp_cell (oC Ω (t - 9)) (an t, .inr (.inr (.inr (.inr (fun i => some (oF Ω (l + aa t + ab t * i))))))))
      rw [h3, hlen, vp_cell_q, vp_cell_q]
      congr 1
      refine ofFn_congr (fun i hi => ?_)
      have := of_decide_eq_true (hall i (List.mem_range.mpr hi))
      rw [this]
      rfl
    · rw [if_neg h100] at h2
      obtain ⟨hlen, h3⟩ := of_decide_eq_true h2
      have hn : tg l = 100 + (t - 100) := by omega
      rw [ent_int Ω mst hn]
      rw [ceE_int Ω vs h3] at h
      have e1 : (fun i => mst l i) = (fun i => ivA (vs.getD i (.int 0))) := funext hm
      rw [e1, ← hlen]
      exact h
theorem start_P {Ω : OT} {H : Heap} (h : va_P (oD Ω) cls10 (cwE Ω EDL) H) : va_P (oD Ω) cls10 (wl Ω mst) H := by
  intro k q hk
  obtain ⟨h1, rfl⟩ := wl_some hk
  refine ce_ent h1 ?_
  have he : (cwE Ω EDL)[k]? = some (oF Ω k, ceE Ω (EDL.getD k (0, []))) := by
    obtain ⟨e, he, -⟩ := ED_at h1
    rw [cwE_at he, List.getD_eq_getElem?_getD, he]
    rfl
  exact h k _ he
