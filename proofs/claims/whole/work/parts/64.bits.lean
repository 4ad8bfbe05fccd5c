/-! letters out of a long -/
def cod (w : Int64) (i : Nat) : Int := ((w.toBitVec.toNat / 2 ^ (8 * i) % 256 : Nat) : Int)
theorem cod_bd {w : Int64} {i : Nat} : 0 ≤ cod w i ∧ cod w i ≤ 255 := by
  unfold cod
  have := Nat.mod_lt (w.toBitVec.toNat / 2 ^ (8 * i)) (show 256 > 0 by decide)
  omega
theorem sar_mod {x : BitVec 64} {n : Nat} (hn : n ≤ 56) : (x.sshiftRight n).toNat % 256 = x.toNat / 2 ^ n % 256 := by
  apply Nat.eq_of_testBit_eq
  intro i
  rw [show 256 = 2 ^ 8 by decide, Nat.testBit_mod_two_pow, Nat.testBit_mod_two_pow, Nat.testBit_div_two_pow]
  by_cases h : i < 8
  · rw [BitVec.testBit_toNat, BitVec.getLsbD_sshiftRight, BitVec.testBit_toNat]
    have a : ¬ (64 ≤ i) := by omega
    have b : n + i < 64 := by omega
    simp [a, b, h, Nat.add_comm]
  · simp [h]
theorem i32_small {y : BitVec 64} (h : y.toNat < 256) : (Int64.toInt32 (Int64.ofBitVec y)).toInt = (y.toNat : Int) := by
  show (BitVec.signExtend 32 y).toInt = _
  rw [BitVec.signExtend_eq_setWidth_of_le y (by decide)]
  have e : (BitVec.setWidth 32 y).toNat = y.toNat := by
    rw [BitVec.toNat_setWidth]
    exact Nat.mod_eq_of_lt (by omega)
  rw [BitVec.toInt_eq_toNat_of_lt (by rw [e]; omega), e]
theorem cod_ref0 {w s : Int64} {n : Nat} (hs : (s.toBitVec.smod 64).toNat = n) (hn : n ≤ 56) : (Int64.toInt32 (gAnd (w >>> s) 255)).toInt = ((w.toBitVec.toNat / 2 ^ n % 256 : Nat) : Int) := by
  have e : gAnd (w >>> s) 255 = Int64.ofBitVec ((w.toBitVec.sshiftRight n) &&& 255#64) := by
    rw [← hs]
    rfl
  have e2 : ((w.toBitVec.sshiftRight n) &&& 255#64).toNat = w.toBitVec.toNat / 2 ^ n % 256 := by
    rw [BitVec.toNat_and, ← sar_mod hn]
    exact Nat.and_two_pow_sub_one_eq_mod _ 8
  rw [e, i32_small (by rw [e2]; omega), e2]
theorem cod_ref {w : Int64} {i : Nat} (hi : i < 8) : (Int64.toInt32 (gAnd (gShr w (Int32.ofInt (8 * (i : Int)))) 255)).toInt = cod w i := by
  have c : i = 0 ∨ i = 1 ∨ i = 2 ∨ i = 3 ∨ i = 4 ∨ i = 5 ∨ i = 6 ∨ i = 7 := by omega
  unfold gShr cod
  rcases c with e | e | e | e | e | e | e | e <;> subst e <;> exact cod_ref0 (by decide) (by decide)
theorem shr_mod {x : BitVec 64} {n : Nat} : (x >>> n).toNat = x.toNat / 2 ^ n := by
  rw [BitVec.toNat_ushiftRight, Nat.shiftRight_eq_div_pow]
theorem cod_cls0 {w : Int64} {s : UInt64} {n : Nat} (hs : s.toNat % 64 = n) : fAnd ((Int64.toInt32 (w.toUInt64 >>> s).toInt64).toInt) 255 = ((w.toBitVec.toNat / 2 ^ n % 256 : Nat) : Int) := by
  unfold fAnd
  rw [Int32.ofInt_toInt]
  have e : (w.toUInt64 >>> s).toInt64 = Int64.ofBitVec (w.toBitVec >>> n) := by
    rw [← hs]
    apply Int64.toBitVec_inj.1
    show (w.toUInt64 >>> s).toBitVec = w.toBitVec >>> (s.toNat % 64)
    rw [UInt64.toBitVec_shiftRight]
    apply BitVec.eq_of_toNat_eq
    rw [BitVec.toNat_ushiftRight]
    show w.toBitVec.toNat >>> (s.toBitVec % 64).toNat = _
    rw [BitVec.toNat_umod]
    rfl
  rw [e]
  generalize hy : w.toBitVec >>> n = y
  have ey : y.toNat = w.toBitVec.toNat / 2 ^ n := by rw [← hy, shr_mod]
  rw [← ey]
  show ((BitVec.signExtend 32 y) &&& 255#32).toInt = _
  rw [BitVec.signExtend_eq_setWidth_of_le y (by decide)]
  have e2 : ((BitVec.setWidth 32 y) &&& 255#32).toNat = y.toNat % 256 := by
    rw [BitVec.toNat_and, BitVec.toNat_setWidth]
    refine (Nat.and_two_pow_sub_one_eq_mod _ 8).trans ?_
    omega
  rw [BitVec.toInt_eq_toNat_of_lt (by rw [e2]; omega), e2]
theorem cod_cls {w : Int64} {i : Nat} (hi : i < 8) : fAnd ((Int64.toInt32 (gUshr w (Int32.ofInt (8 * (i : Int))))).toInt) 255 = cod w i := by
  have c : i = 0 ∨ i = 1 ∨ i = 2 ∨ i = 3 ∨ i = 4 ∨ i = 5 ∨ i = 6 ∨ i = 7 := by omega
  unfold gUshr cod
  rcases c with e | e | e | e | e | e | e | e <;> subst e <;> exact cod_cls0 (by decide)
theorem cod_byte0 {w s : Int64} {n : Nat} (hs : (s.toBitVec.smod 64).toNat = n) (hn : n ≤ 56) (h : w.toBitVec.toNat / 2 ^ n % 256 ≤ 126) : (Int32.ofInt ((Int64.toInt32 (w >>> s)).toInt)).toInt8.toInt = ((w.toBitVec.toNat / 2 ^ n % 256 : Nat) : Int) := by
  rw [Int32.ofInt_toInt]
  have e : w >>> s = Int64.ofBitVec (w.toBitVec.sshiftRight n) := by
    rw [← hs]
    rfl
  rw [e]
  generalize hy : w.toBitVec.sshiftRight n = y
  have ey : y.toNat % 256 = w.toBitVec.toNat / 2 ^ n % 256 := by rw [← hy, sar_mod hn]
  show (BitVec.signExtend 8 (BitVec.signExtend 32 y)).toInt = _
  rw [BitVec.signExtend_eq_setWidth_of_le y (by decide), BitVec.signExtend_eq_setWidth_of_le _ (by decide)]
  have e2 : (BitVec.setWidth 8 (BitVec.setWidth 32 y)).toNat = y.toNat % 256 := by
    rw [BitVec.toNat_setWidth, BitVec.toNat_setWidth]
    omega
  rw [BitVec.toInt_eq_toNat_of_lt (by rw [e2]; omega), e2, ey]
theorem cod_byte {w : Int64} {i : Nat} (hi : i < 8) (h : cod w i ≤ 126) : (Int32.ofInt ((Int64.toInt32 (gShr w (Int32.ofInt (8 * (i : Int))))).toInt)).toInt8.toInt = cod w i := by
  have c : i = 0 ∨ i = 1 ∨ i = 2 ∨ i = 3 ∨ i = 4 ∨ i = 5 ∨ i = 6 ∨ i = 7 := by omega
  unfold cod at h
  unfold gShr cod
  rcases c with e | e | e | e | e | e | e | e <;> subst e <;> exact cod_byte0 (by decide) (by decide) (by omega)
