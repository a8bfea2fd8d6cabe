/-! Bytes and characters. -/
theorem bv_of {v : Int32} (h0 : 0 ≤ v.toInt) : v.toBitVec.toNat = v.toInt.toNat := by
  have h : v.toInt = v.toBitVec.toInt := rfl
  rw [h] at h0 ⊢
  rw [BitVec.toInt_eq_toNat_cond] at h0 ⊢
  have hl := v.toBitVec.isLt
  split <;> rename_i h2
  · simp
  · rw [if_neg h2] at h0
    omega
theorem int_of {v : Int32} {n : Nat} (h : v.toBitVec.toNat = n) (hn : n < 2147483648) : v.toInt = n := by
  have h1 : v.toInt = v.toBitVec.toInt := rfl
  rw [h1, BitVec.toInt_eq_toNat_cond, if_pos (by omega), h]
theorem u8_r (x : Int32) : 0 ≤ (u8 x).toInt ∧ (u8 x).toInt < 256 := by
  have h1 : (u8 x).toBitVec.toNat = x.toBitVec.toNat &&& 255 := by
    unfold u8
    rw [Int32.toBitVec_and, BitVec.toNat_and]
    rfl
  have h2 : x.toBitVec.toNat &&& 255 ≤ 255 := Nat.and_le_right
  rw [int_of h1 (by omega)]
  omega
theorem c16 {v : Int32} (h0 : 0 ≤ v.toInt) (h1 : v.toInt < 65536) : (v.toUInt32 % 65536).toInt32 = v := by
  have h2 := bv_of h0
  apply Int32.toBitVec_inj.mp
  apply BitVec.eq_of_toNat_eq
  have h3 : (v.toUInt32 % 65536).toInt32.toBitVec.toNat = v.toBitVec.toNat % 65536 := by
    show (v.toUInt32 % 65536).toNat = _
    rw [UInt32.toNat_mod]
    rfl
  rw [h3, Nat.mod_eq_of_lt (by omega)]
theorem nrC_in {v : Int32} (h0 : 0 ≤ v.toInt) (h1 : v.toInt < 65536) : nrC v = some () := by
  unfold nrC
  have h2 : vp_nar .char v = v := c16 h0 h1
  have h3 : (0 : Int32) ≤ v := Int32.le_iff_toInt_le.mpr (by have h9 : (0 : Int32).toInt = 0 := (by decide); omega)
  have h4 : v ≤ (65535 : Int32) := Int32.le_iff_toInt_le.mpr (by have h9 : (65535 : Int32).toInt = 65535 := (by decide); omega)
  have h5 : fits .char (.int v) = true := by
    show (decide ((0 : Int32) ≤ v) && decide (v ≤ (65535 : Int32))) = true
    rw [decide_eq_true h3, decide_eq_true h4]
    rfl
  rw [if_pos ⟨h2, h5⟩]
theorem fits_b {v : Int32} (h0 : -128 ≤ v.toInt) (h1 : v.toInt ≤ 127) : fits .byte (.int v) = true := by
  have h3 : (-128 : Int32) ≤ v := Int32.le_iff_toInt_le.mpr (by have h9 : (-128 : Int32).toInt = -128 := (by decide); omega)
  have h4 : v ≤ (127 : Int32) := Int32.le_iff_toInt_le.mpr (by have h9 : (127 : Int32).toInt = 127 := (by decide); omega)
  show (decide ((-128 : Int32) ≤ v) && decide (v ≤ (127 : Int32))) = true
  rw [decide_eq_true h3, decide_eq_true h4]
  rfl
theorem lA_ar {K : KE} {st : CS} {a t n : Nat} {g : Nat → Int32} (h : ar1i st a t n g) : lA K st a t = some n := by
  unfold lA
  rw [cA_w h.1, h.2]
  simp
theorem shr0 (x : Int32) : x >>> ((0 : Int32) &&& 31) = x := by
  have h : ((0 : Int32) &&& 31) = 0 := by decide
  rw [h]
  apply Int32.toBitVec_inj.mp
  rw [Int32.toBitVec_shiftRight]
  simp
theorem shl0 (x : Int32) : x <<< ((0 : Int32) &&& 31) = x := by
  have h : ((0 : Int32) &&& 31) = 0 := by decide
  rw [h]
  apply Int32.toBitVec_inj.mp
  rw [Int32.toBitVec_shiftLeft]
  simp
theorem ofNat_i {n : Nat} (h : n < 2147483648) : (Int32.ofNat n).toInt = n := by
  apply int_of
  · show (BitVec.ofNat 32 n).toNat = n
    rw [BitVec.toNat_ofNat, Nat.mod_eq_of_lt (by omega)]
  · exact h
