/-! PURE 22: bits -/
theorem by_k1 (x : BitVec 64) (s : Nat) (hs : s ≤ 56) : (x >>> s).setWidth 32 &&& 255#32 = ((x.sshiftRight s) &&& 255#64).setWidth 32 := by
  ext i hi
  simp only [BitVec.getElem_and, BitVec.getElem_setWidth, BitVec.getLsbD_ushiftRight, BitVec.getLsbD_and, BitVec.getLsbD_sshiftRight]
  by_cases h8 : i < 8
  · have : s + i < 64 := by omega
    have h2 : ¬ 64 ≤ i := by omega
    simp [this, h2]
    rcases (show i = 0 ∨ i = 1 ∨ i = 2 ∨ i = 3 ∨ i = 4 ∨ i = 5 ∨ i = 6 ∨ i = 7 by omega) with h | h | h | h | h | h | h | h <;> subst h <;> simp <;> decide
  · have h3 : (255#32)[i] = false := by
      have : ∀ j, (h : j < 32) → 8 ≤ j → (255#32)[j] = false := by decide
      exact this i hi (by omega)
    have h4 : (255#64).getLsbD i = false := by
      have : ∀ j, j < 32 → 8 ≤ j → (255#64).getLsbD j = false := by decide
      exact this i hi (by omega)
    simp [h3, h4]
theorem by_k2 (w : Int64) (y : Int32) (s : Nat) (h1 : (y.toInt64.toUInt64 &&& Int64.toUInt64 63) = UInt64.ofNat s) (h2 : (y.toInt64 &&& 63) = Int64.ofNat s) (hs : s ≤ 56) : (lur w y).toInt32 &&& 255 = (lsr w y &&& 255).toInt32 := by
  apply Int32.toBitVec_inj.mp
  have e1 : (lur w y).toBitVec = w.toBitVec >>> s := by
    unfold lur
    rw [h1]
    have : (UInt64.ofNat s).toNat % 64 = s := by
      rw [UInt64.toNat_ofNat']
      omega
    show (w.toUInt64 >>> UInt64.ofNat s).toBitVec = _
    rw [UInt64.toBitVec_shiftRight]
    show w.toBitVec >>> ((UInt64.ofNat s).toBitVec % 64) = _
    rw [BitVec.ushiftRight_eq' ]
    congr 1
  have e2 : (lsr w y).toBitVec = w.toBitVec.sshiftRight s := by
    unfold lsr
    rw [h2, Int64.toBitVec_shiftRight]
    rw [BitVec.sshiftRight_eq']
    congr 1
    have hh : ∀ s, s ≤ 56 → ((Int64.ofNat s).toBitVec.smod 64#64).toNat = s := by decide
    exact hh s hs
  show (lur w y).toBitVec.signExtend 32 &&& 255#32 = ((lsr w y).toBitVec &&& 255#64).signExtend 32
  rw [e1, e2, BitVec.signExtend_eq_setWidth_of_le _ (by omega), BitVec.signExtend_eq_setWidth_of_le _ (by omega)]
  exact by_k1 _ s hs
theorem by_sx {n : Nat} (x : BitVec 32) (hn : n < 32) (hn0 : 0 < n) : (x.setWidth n).signExtend 32 = (x <<< (32 - n)).sshiftRight (32 - n) := by
  ext i hi
  rw [BitVec.getElem_signExtend, BitVec.getElem_sshiftRight]
  by_cases h : i < n
  · have h1 : 32 - n + i < 32 := by omega
    have h2 : ¬ 32 - n + i < 32 - n := by omega
    simp [h, h1, h2, BitVec.getElem_shiftLeft, BitVec.getLsbD_eq_getElem hi]
  · have h1 : ¬ 32 - n + i < 32 := by omega
    simp only [h, h1, dite_false, BitVec.msb_eq_getLsbD_last, BitVec.getLsbD_setWidth, BitVec.getLsbD_shiftLeft]
    simp
    have h5 : 32 - n ≤ 31 := by omega
    have e : 31 - (32 - n) = n - 1 := by omega
    rw [e]
    have h6 : ¬ 31 < 32 - n := by omega
    simp [h6]
    intro _
    omega
theorem by_8 (x : Int32) : x.toInt8.toInt32 = isr (isl x 24) 24 := by
  apply Int32.toBitVec_inj.mp
  have e := by_sx (n := 8) x.toBitVec (by omega) (by omega)
  have h1 : (x.toInt8.toInt32).toBitVec = (x.toBitVec.setWidth 8).signExtend 32 := by
    show (x.toBitVec.signExtend 8).signExtend 32 = _
    rw [BitVec.signExtend_eq_setWidth_of_le x.toBitVec (by omega)]
  rw [h1, e]
  unfold isr isl
  rw [Int32.toBitVec_shiftRight, Int32.toBitVec_shiftLeft]
  rfl
theorem by_16 (x : Int32) : x.toInt16.toInt32 = isr (isl x 16) 16 := by
  apply Int32.toBitVec_inj.mp
  have e := by_sx (n := 16) x.toBitVec (by omega) (by omega)
  have h1 : (x.toInt16.toInt32).toBitVec = (x.toBitVec.setWidth 16).signExtend 32 := by
    show (x.toBitVec.signExtend 16).signExtend 32 = _
    rw [BitVec.signExtend_eq_setWidth_of_le x.toBitVec (by omega)]
  rw [h1, e]
  unfold isr isl
  rw [Int32.toBitVec_shiftRight, Int32.toBitVec_shiftLeft]
  rfl
theorem by_32 (x : Int32) : x = isr (isl x 0) 0 := by
  apply Int32.toBitVec_inj.mp
  unfold isr isl
  rw [Int32.toBitVec_shiftRight, Int32.toBitVec_shiftLeft]
  ext i hi
  simp
theorem and255 (x : Int32) : 0 ≤ (x &&& 255).toInt ∧ (x &&& 255).toInt ≤ 255 := by
  have h : (x &&& 255).toBitVec.toNat ≤ 255 := by
    rw [Int32.toBitVec_and, BitVec.toNat_and]
    exact Nat.and_le_right
  have h2 : (x &&& 255).toInt = ((x &&& 255).toBitVec.toNat : Int) := by
    show (x &&& 255).toBitVec.toInt = _
    rw [BitVec.toInt_eq_toNat_of_lt (by omega)]
  omega
theorem divm (x : Int32) : x / (-1) = -x := by
  apply Int32.toBitVec_inj.mp
  rw [Int32.toBitVec_div, Int32.toBitVec_neg]
  show x.toBitVec.sdiv (-1#32) = _
  rw [BitVec.sdiv_neg (by decide), BitVec.sdiv_one]
  rfl
theorem byte_all : ∀ i, i < 8 → ((8 * nI i).toInt64.toUInt64 &&& Int64.toUInt64 63) = UInt64.ofNat (8 * i) ∧ ((8 * nI i).toInt64 &&& 63) = Int64.ofNat (8 * i) := by decide +kernel
def byt (w : Int64) (i : Nat) : Int32 := (lur w (8 * nI i)).toInt32 &&& 255
theorem byt_eq (w : Int64) {i : Nat} (hi : i < 8) : (lsr w (8 * nI i) &&& 255).toInt32 = byt w i := (by_k2 w (8 * nI i) (8 * i) (byte_all i hi).1 (byte_all i hi).2 (by omega)).symm
theorem byt_rg (w : Int64) (i : Nat) : rg (byt w i) 0 255 := and255 _
