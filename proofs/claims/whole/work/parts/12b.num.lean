theorem am_rgI (y : Int32) : -2147483648 ≤ y.toInt ∧ y.toInt ≤ 2147483647 := by
  have h1 := Int32.le_toInt y
  have h2 := Int32.toInt_lt y
  omega
theorem am_rgL (y : Int64) : -9223372036854775808 ≤ y.toInt ∧ y.toInt ≤ 9223372036854775807 := by
  have h1 := Int64.le_toInt y
  have h2 := Int64.toInt_lt y
  omega
theorem am_to {x : Int} (h : -2147483648 ≤ x ∧ x ≤ 2147483647) : (Int32.ofInt x).toInt = x := Int32.toInt_ofInt_of_le (by omega) (by omega)
theorem am_toL {x : Int} (h : -9223372036854775808 ≤ x ∧ x ≤ 9223372036854775807) : (Int64.ofInt x).toInt = x := Int64.toInt_ofInt_of_le (by omega) (by omega)
theorem am_wr (e : Int) : ∃ q : Int, (Int32.ofInt e).toInt = e + 4294967296 * q := by
  have h : (Int32.ofInt e).toInt = e.bmod 4294967296 := Int32.toInt_ofInt
  rw [h, Int.bmod_def]
  split
  · exact ⟨-(e / 4294967296), by omega⟩
  · exact ⟨-(e / 4294967296) - 1, by omega⟩
theorem am_wrL (e : Int) : ∃ q : Int, (Int64.ofInt e).toInt = e + 18446744073709551616 * q := by
  have h : (Int64.ofInt e).toInt = e.bmod 18446744073709551616 := Int64.toInt_ofInt
  rw [h, Int.bmod_def]
  split
  · exact ⟨-(e / 18446744073709551616), by omega⟩
  · exact ⟨-(e / 18446744073709551616) - 1, by omega⟩
theorem am_ar_e {e : Int} {f : Int → Prop} (h : am_ar e f) : ∃ z : Int, Int32.ofInt e = Int32.ofInt z ∧ (-2147483648 ≤ z ∧ z ≤ 2147483647) ∧ f z := by
  obtain ⟨q, hq⟩ := am_wr e
  have hr := am_rgI (Int32.ofInt e)
  exact ⟨(Int32.ofInt e).toInt, (Int32.ofInt_toInt _).symm, hr, h _ q hq hr.1 hr.2⟩
theorem am_al_e {e : Int} {f : Int → Prop} (h : am_al e f) : ∃ z : Int, Int64.ofInt e = Int64.ofInt z ∧ (-9223372036854775808 ≤ z ∧ z ≤ 9223372036854775807) ∧ f z := by
  obtain ⟨q, hq⟩ := am_wrL e
  have hr := am_rgL (Int64.ofInt e)
  exact ⟨(Int64.ofInt e).toInt, (Int64.ofInt_toInt _).symm, hr, h _ q hq hr.1 hr.2⟩
theorem am_nm_e {y : Int32} {f : Int → Prop} (h : am_nm y.toInt f) : ∃ z : Int, y = Int32.ofInt z ∧ (-2147483648 ≤ z ∧ z ≤ 2147483647) ∧ f z := by
  have hr := am_rgI y
  exact ⟨y.toInt, (Int32.ofInt_toInt y).symm, hr, h _ rfl hr.1 hr.2⟩
theorem am_nl_e {y : Int64} {f : Int → Prop} (h : am_nl y.toInt f) : ∃ z : Int, y = Int64.ofInt z ∧ (-9223372036854775808 ≤ z ∧ z ≤ 9223372036854775807) ∧ f z := by
  have hr := am_rgL y
  exact ⟨y.toInt, (Int64.ofInt_toInt y).symm, hr, h _ rfl hr.1 hr.2⟩
theorem am_e_add {x y : Int} {f : Int → Prop} (h : am_ar (x + y) f) : ∃ z : Int, Int32.ofInt x + Int32.ofInt y = Int32.ofInt z ∧ (-2147483648 ≤ z ∧ z ≤ 2147483647) ∧ f z := by
  rw [← Int32.ofInt_add]; exact am_ar_e h
theorem am_e_sub {x y : Int} {f : Int → Prop} (h : am_ar (x - y) f) : ∃ z : Int, Int32.ofInt x - Int32.ofInt y = Int32.ofInt z ∧ (-2147483648 ≤ z ∧ z ≤ 2147483647) ∧ f z := by
  rw [← Int32.ofInt_sub]; exact am_ar_e h
theorem am_e_mul {x y : Int} {f : Int → Prop} (h : am_ar (x * y) f) : ∃ z : Int, Int32.ofInt x * Int32.ofInt y = Int32.ofInt z ∧ (-2147483648 ≤ z ∧ z ≤ 2147483647) ∧ f z := by
  rw [← Int32.ofInt_mul]; exact am_ar_e h
theorem am_e_neg {x : Int} {f : Int → Prop} (h : am_ar (-x) f) : ∃ z : Int, -Int32.ofInt x = Int32.ofInt z ∧ (-2147483648 ≤ z ∧ z ≤ 2147483647) ∧ f z := by
  rw [← Int32.ofInt_neg]; exact am_ar_e h
theorem am_e_ladd {x y : Int} {f : Int → Prop} (h : am_al (x + y) f) : ∃ z : Int, Int64.ofInt x + Int64.ofInt y = Int64.ofInt z ∧ (-9223372036854775808 ≤ z ∧ z ≤ 9223372036854775807) ∧ f z := by
  rw [← Int64.ofInt_add]; exact am_al_e h
theorem am_e_lsub {x y : Int} {f : Int → Prop} (h : am_al (x - y) f) : ∃ z : Int, Int64.ofInt x - Int64.ofInt y = Int64.ofInt z ∧ (-9223372036854775808 ≤ z ∧ z ≤ 9223372036854775807) ∧ f z := by
  rw [← Int64.ofInt_sub]; exact am_al_e h
theorem am_e_lmul {x y : Int} {f : Int → Prop} (h : am_al (x * y) f) : ∃ z : Int, Int64.ofInt x * Int64.ofInt y = Int64.ofInt z ∧ (-9223372036854775808 ≤ z ∧ z ≤ 9223372036854775807) ∧ f z := by
  rw [← Int64.ofInt_mul]; exact am_al_e h
theorem am_eqI {x y : Int} (hx : -2147483648 ≤ x ∧ x ≤ 2147483647) (hy : -2147483648 ≤ y ∧ y ≤ 2147483647) : Int32.ofInt x = Int32.ofInt y ↔ x = y := by
  rw [← Int32.toInt_inj, am_to hx, am_to hy]
theorem am_ltI {x y : Int} (hx : -2147483648 ≤ x ∧ x ≤ 2147483647) (hy : -2147483648 ≤ y ∧ y ≤ 2147483647) : Int32.ofInt x < Int32.ofInt y ↔ x < y := by
  rw [Int32.lt_iff_toInt_lt, am_to hx, am_to hy]
theorem am_leI {x y : Int} (hx : -2147483648 ≤ x ∧ x ≤ 2147483647) (hy : -2147483648 ≤ y ∧ y ≤ 2147483647) : Int32.ofInt x ≤ Int32.ofInt y ↔ x ≤ y := by
  rw [Int32.le_iff_toInt_le, am_to hx, am_to hy]
theorem am_zI : (0 : Int32) = Int32.ofInt 0 := by decide
theorem am_ixI {j : Int} {len : Nat} (h : 0 ≤ j ∧ j < (len : Int)) (hr : -2147483648 ≤ j ∧ j ≤ 2147483647) : (Int32.ofInt j).toNatClampNeg = j.toNat ∧ vp_in (Int32.ofInt j) len := by
  have h1 : (Int32.ofInt j).toNatClampNeg = j.toNat := by
    rw [Int32.toNatClampNeg, am_to hr]
  refine ⟨h1, fun q => ?_⟩
  rcases q with q | q
  · rw [am_zI, am_ltI hr ⟨by decide, by decide⟩] at q
    omega
  · rw [h1] at q
    omega
theorem am_b8 {v : Int} (h : -128 ≤ v ∧ v ≤ 127) : (Int8.ofInt v).toInt32 = Int32.ofInt v := by
  rw [← Int32.toInt_inj, Int8.toInt_toInt32, Int8.toInt_ofInt_of_le (by omega) (by omega), am_to (by omega)]
theorem am_b16 {v : Int} (h : -32768 ≤ v ∧ v ≤ 32767) : (Int16.ofInt v).toInt32 = Int32.ofInt v := by
  rw [← Int32.toInt_inj, Int16.toInt_toInt32, Int16.toInt_ofInt_of_le (by omega) (by omega), am_to (by omega)]
theorem am_i2l {x : Int} (h : -2147483648 ≤ x ∧ x ≤ 2147483647) : (Int32.ofInt x).toInt64 = Int64.ofInt x := by
  rw [← Int64.toInt_inj, Int32.toInt_toInt64, am_to h, am_toL (by omega)]
theorem am_lcI {x y : Int} (hx : -9223372036854775808 ≤ x ∧ x ≤ 9223372036854775807) (hy : -9223372036854775808 ≤ y ∧ y ≤ 9223372036854775807) : lg_cmp (Int64.ofInt x) (Int64.ofInt y) = Int32.ofInt (am_lc x y) := by
  unfold lg_cmp am_lc
  have h1 : Int64.ofInt x > Int64.ofInt y ↔ y < x := by
    show Int64.ofInt y < Int64.ofInt x ↔ y < x
    rw [Int64.lt_iff_toInt_lt, am_toL hx, am_toL hy]
  have h2 : Int64.ofInt x = Int64.ofInt y ↔ x = y := by
    rw [← Int64.toInt_inj, am_toL hx, am_toL hy]
  by_cases g1 : y < x
  · rw [if_pos g1, if_pos (h1.mpr g1)]; decide
  · rw [if_neg g1, if_neg (fun q => g1 (h1.mp q))]
    by_cases g2 : x = y
    · rw [if_pos g2, if_pos (h2.mpr g2)]; decide
    · rw [if_neg g2, if_neg (fun q => g2 (h2.mp q))]; decide
theorem am_bool {x : Int} (h : x = 0 ∨ x = 1) : narrow .boolean (.int (Int32.ofInt x)) = .int (Int32.ofInt x) := by
  rcases h with rfl | rfl <;> decide +kernel
theorem am_char {x : Int} (h : 0 ≤ x ∧ x ≤ 65535) : narrow .char (.int (Int32.ofInt x)) = .int (Int32.ofInt x) := by
  have e : ((Int32.ofInt x).toUInt32 % 65536).toInt32 = Int32.ofInt x := by
    obtain ⟨n, rfl⟩ := Int.eq_ofNat_of_zero_le h.1
    apply Int32.toBitVec_inj.mp
    apply BitVec.eq_of_toNat_eq
    have h2 : n < 65536 := by omega
    simp [Int32.toBitVec_ofInt, UInt32.toBitVec_mod]
    omega
  rw [← e]
  exact pk_nc _
theorem am_byte {x : Int} (h : -128 ≤ x ∧ x ≤ 127) : narrow .byte (.int (Int32.ofInt x)) = .int (Int32.ofInt x) := by
  show Value.int (Int32.ofInt x).toInt8.toInt32 = .int (Int32.ofInt x)
  have e : (Int32.ofInt x).toInt8.toInt32 = Int32.ofInt x := by
    rw [← Int32.toInt_inj, Int8.toInt_toInt32, Int32.toInt_toInt8, am_to (by omega)]
    have h1 : x.bmod (2 ^ 8) = x.bmod 256 := rfl
    rw [h1, Int.bmod_def]
    split <;> omega
  rw [e]
