/-! bits -/
theorem b_sh : ∀ y : Fin 64, ((Int32.ofInt ((y.val : Nat) : Int)).toInt64.toUInt64 &&& Int64.toUInt64 63).toNat = y.val := by decide +kernel
theorem b_sl : ∀ y : Fin 64, ((Int32.ofInt ((y.val : Nat) : Int)).toInt64 &&& 63).toBitVec.toNat = y.val := by decide +kernel
theorem b_bv (x : Int) (h : 0 ≤ x ∧ x < 18446744073709551616) : (Int64.ofInt x).toBitVec.toNat = x.toNat := by
  rw [Int64.toBitVec_ofInt, BitVec.toNat_ofInt]
  have : x % ((2 ^ 64 : Nat) : Int) = x := Int.emod_eq_of_lt h.1 (by simpa using h.2)
  rw [this]
theorem b_int (v : Int64) (h : v.toBitVec.toNat < 9223372036854775808) : v.toInt = v.toBitVec.toNat := by
  show v.toBitVec.toInt = _
  rw [BitVec.toInt_eq_toNat_cond, if_pos (by omega)]
theorem zlushr_n {x y : Int} (hx : 0 ≤ x ∧ x < 9223372036854775808) (hy : 0 ≤ y ∧ y < 64) : zlushr x y = ((x.toNat / 2 ^ y.toNat : Nat) : Int) := by
  unfold zlushr
  have hb := b_bv x (by omega)
  have hs := b_sh ⟨y.toNat, by omega⟩
  rw [show (((⟨y.toNat, by omega⟩ : Fin 64).val : Nat) : Int) = y by show ((y.toNat : Nat) : Int) = y; omega] at hs
  have e : (((Int64.ofInt x).toUInt64 >>> ((Int32.ofInt y).toInt64.toUInt64 &&& Int64.toUInt64 63)).toInt64).toBitVec.toNat = x.toNat / 2 ^ y.toNat := by
    show (((Int64.ofInt x).toUInt64 >>> ((Int32.ofInt y).toInt64.toUInt64 &&& Int64.toUInt64 63))).toNat = _
    rw [UInt64.toNat_shiftRight, hs]
    show (Int64.ofInt x).toBitVec.toNat >>> (y.toNat % 64) = _
    rw [hb, Nat.mod_eq_of_lt (by omega), Nat.shiftRight_eq_div_pow]
  rw [b_int _ (by rw [e]; exact Nat.lt_of_le_of_lt (Nat.div_le_self _ _) (by omega)), e]
theorem zlshl_n {x y : Int} (hx : 0 ≤ x) (hy : 0 ≤ y ∧ y < 64) (hb : x.toNat * 2 ^ y.toNat < 9223372036854775808) : zlshl x y = ((x.toNat * 2 ^ y.toNat : Nat) : Int) := by
  unfold zlshl
  have hp := Nat.two_pow_pos y.toNat
  have hx2 : x.toNat ≤ x.toNat * 2 ^ y.toNat := Nat.le_mul_of_pos_right _ hp
  have hv := b_bv x (by omega)
  have hs := b_sl ⟨y.toNat, by omega⟩
  rw [show (((⟨y.toNat, by omega⟩ : Fin 64).val : Nat) : Int) = y by show ((y.toNat : Nat) : Int) = y; omega] at hs
  have e : (Int64.ofInt x <<< ((Int32.ofInt y).toInt64 &&& 63)).toBitVec.toNat = x.toNat * 2 ^ y.toNat := by
    rw [Int64.toBitVec_shiftLeft]
    have hm : (((Int32.ofInt y).toInt64 &&& 63).toBitVec.smod 64).toNat = y.toNat := by
      have : ∀ y : Fin 64, (((Int32.ofInt ((y.val : Nat) : Int)).toInt64 &&& 63).toBitVec.smod 64).toNat = y.val := by decide +kernel
      have h := this ⟨y.toNat, by omega⟩
      rw [show (((⟨y.toNat, by omega⟩ : Fin 64).val : Nat) : Int) = y by show ((y.toNat : Nat) : Int) = y; omega] at h
      exact h
    rw [BitVec.shiftLeft_eq', hm, BitVec.toNat_shiftLeft, hv, Nat.shiftLeft_eq, Nat.mod_eq_of_lt (by omega)]
  rw [b_int _ (by rw [e]; exact hb), e]
theorem zland_n {a b : Nat} (ha : a < 9223372036854775808) (hb : b < 9223372036854775808) : zland (a : Int) (b : Int) = ((a &&& b : Nat) : Int) := by
  unfold zland
  have e : (Int64.ofInt (a : Int) &&& Int64.ofInt (b : Int)).toBitVec.toNat = a &&& b := by
    rw [Int64.toBitVec_and, BitVec.toNat_and, b_bv _ (by omega), b_bv _ (by omega), Int.toNat_natCast, Int.toNat_natCast]
  rw [b_int _ (by rw [e]; exact Nat.and_lt_two_pow (n := 63) a hb), e]
theorem zlor_n {a b : Nat} (ha : a < 9223372036854775808) (hb : b < 9223372036854775808) : zlor (a : Int) (b : Int) = ((a ||| b : Nat) : Int) := by
  unfold zlor
  have e : (Int64.ofInt (a : Int) ||| Int64.ofInt (b : Int)).toBitVec.toNat = a ||| b := by
    rw [Int64.toBitVec_or, BitVec.toNat_or, b_bv _ (by omega), b_bv _ (by omega), Int.toNat_natCast, Int.toNat_natCast]
  rw [b_int _ (by rw [e]; exact Nat.or_lt_two_pow (n := 63) ha hb), e]
/-- a long's low byte -/
theorem zbyte {x : Int} (hx : 0 ≤ x ∧ x < 9223372036854775808) : zand (zl2i x) 255 = x % 256 := by
  unfold zand zl2i
  have e1 : Int32.ofInt (Int64.ofInt x).toInt32.toInt = (Int64.ofInt x).toInt32 := Int32.ofInt_toInt _
  rw [e1]
  have e2 : ((Int64.ofInt x).toInt32 &&& Int32.ofInt 255).toBitVec.toNat = x.toNat % 256 := by
    rw [Int32.toBitVec_and, BitVec.toNat_and]
    rw [show (Int32.ofInt 255).toBitVec.toNat = 2 ^ 8 - 1 from by decide, Nat.and_two_pow_sub_one_eq_mod]
    rw [Int64.toBitVec_toInt32]
    show ((Int64.ofInt x).toBitVec.signExtend 32).toNat % 256 = _
    rw [BitVec.signExtend_eq_setWidth_of_le _ (by omega), BitVec.toNat_setWidth, b_bv _ (by omega)]
    omega
  show ((Int64.ofInt x).toInt32 &&& Int32.ofInt 255).toBitVec.toInt = _
  rw [BitVec.toInt_eq_toNat_cond, e2, if_pos (by omega)]
  omega
theorem zi2b_z {x : Int} (h : -128 ≤ x ∧ x ≤ 127) : zi2b x = x := by
  have key : ∀ y : Fin 256, zi2b ((y.val : Int) - 128) = (y.val : Int) - 128 := by decide +kernel
  have := key ⟨(x + 128).toNat, by omega⟩
  have e : (((x + 128).toNat : Nat) : Int) - 128 = x := by omega
  simp only [e] at this
  exact this

