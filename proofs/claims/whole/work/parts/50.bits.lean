theorem am_sx (b : BitVec 32) (s : Nat) (hs : s ≤ 24) : (b.sshiftRight s).setWidth 8 = (b >>> s).setWidth 8 := by
  apply BitVec.eq_of_getLsbD_eq
  intro i hi
  have h1 : s + i < 32 := by omega
  have h2 : i < 32 := by omega
  have h3 : decide (32 ≤ i) = false := decide_eq_false (by omega)
  rw [BitVec.getLsbD_setWidth, BitVec.getLsbD_setWidth, BitVec.getLsbD_sshiftRight, BitVec.getLsbD_ushiftRight, if_pos h1, h3]
  rfl
theorem am_i8 (c : BitVec 8) : c.toInt % 256 = (c.toNat : Int) := by
  have h := c.isLt
  rw [BitVec.toInt_eq_toNat_cond]
  split <;> omega
theorem am_m8 (e : BitVec 32) : (e &&& 255#32).toInt = ((e.setWidth 8).toNat : Int) := by
  have h1 : (e &&& 255#32).toNat = e.toNat % 256 := by
    rw [BitVec.toNat_and]
    exact Nat.and_two_pow_sub_one_eq_mod e.toNat 8
  have h2 : (e.setWidth 8).toNat = e.toNat % 256 := by
    rw [BitVec.toNat_setWidth]
  rw [BitVec.toInt_eq_toNat_of_lt (by rw [h1]; omega), h1, h2]
theorem am_bytk {x : Int32} {y : UInt32} {y2 : Int32} {k : Nat} (hk : k ≤ 24) (h1 : (y.toBitVec % 32#32).toNat = k) (h2 : (y2.toBitVec.smod 32#32).toNat = k) : ((x.toUInt32 >>> y).toInt32 &&& Int32.ofInt 255).toInt = (x >>> y2).toInt8.toInt % 256 := by
  have e1 : ((x.toUInt32 >>> y).toInt32 &&& Int32.ofInt 255).toBitVec = (x.toBitVec >>> k) &&& 255#32 := by
    show (x.toBitVec >>> (y.toBitVec % 32#32).toNat) &&& (Int32.ofInt 255).toBitVec = _
    rw [h1]
    rfl
  have e2 : (x >>> y2).toInt8.toBitVec = (x.toBitVec.sshiftRight k).setWidth 8 := by
    show (x.toBitVec.sshiftRight (y2.toBitVec.smod 32#32).toNat).signExtend 8 = _
    rw [h2, BitVec.signExtend_eq_setWidth_of_le _ (by decide)]
  show ((x.toUInt32 >>> y).toInt32 &&& Int32.ofInt 255).toBitVec.toInt = (x >>> y2).toInt8.toBitVec.toInt % 256
  rw [e1, e2, am_m8, am_i8, am_sx _ _ hk]
/-- a byte of an int: the class's way and the reference's -/
theorem am_byt {v : Int} {s : Int} (hs : s = 0 ∨ s = 8 ∨ s = 16 ∨ s = 24) : am_and (am_ush v s) 255 = am_i2b (am_shr v s) % 256 := by
  unfold am_and am_ush am_i2b am_shr
  rw [Int32.ofInt_toInt, Int32.ofInt_toInt, Int8.toInt_toInt32]
  rcases hs with rfl | rfl | rfl | rfl
  · exact am_bytk (k := 0) (by decide) (by decide) (by decide)
  · exact am_bytk (k := 8) (by decide) (by decide) (by decide)
  · exact am_bytk (k := 16) (by decide) (by decide) (by decide)
  · exact am_bytk (k := 24) (by decide) (by decide) (by decide)
theorem am_and255 (x : Int) : 0 ≤ am_and x 255 ∧ am_and x 255 ≤ 255 := by
  have h : am_and x 255 = (((Int32.ofInt x).toBitVec.setWidth 8).toNat : Int) := am_m8 _
  have h2 := ((Int32.ofInt x).toBitVec.setWidth 8).isLt
  omega
theorem am_and255_mod {x : Int} (hx : -2147483648 ≤ x ∧ x ≤ 2147483647) : am_and x 255 = x % 256 := by
  have h : am_and x 255 = (((Int32.ofInt x).toBitVec.setWidth 8).toNat : Int) := am_m8 _
  rw [h, BitVec.toNat_setWidth, Int32.toBitVec_ofInt, BitVec.toNat_ofInt]
  omega
theorem am_i2b_rg (x : Int) : -128 ≤ am_i2b x ∧ am_i2b x ≤ 127 := by
  unfold am_i2b
  rw [Int8.toInt_toInt32]
  have h1 := Int8.le_toInt (Int32.ofInt x).toInt8
  have h2 := Int8.toInt_lt (Int32.ofInt x).toInt8
  omega
