/-! SETS OF ROWS as bits -/
def mk (p : Nat → Bool) : Nat → Nat
  | 0 => 0
  | n + 1 => mk p n + bif p n then 2 ^ n else 0
theorem mk_lt (p : Nat → Bool) : ∀ n : Nat, mk p n < 2 ^ n := by
  intro n
  induction n with
  | zero => exact Nat.one_pos
  | succ n ih =>
    have e : 2 ^ (n + 1) = 2 ^ n + 2 ^ n := by rw [Nat.pow_succ]; omega
    show mk p n + (bif p n then 2 ^ n else 0) < 2 ^ (n + 1)
    cases p n
    · show mk p n + 0 < _; omega
    · show mk p n + 2 ^ n < _; omega
theorem mk_bit (p : Nat → Bool) : ∀ n q : Nat, (mk p n).testBit q = (decide (q < n) && p q) := by
  intro n
  induction n with
  | zero => intro q; simp [mk]
  | succ n ih =>
    intro q
    show (mk p n + (bif p n then 2 ^ n else 0)).testBit q = _
    have hl := mk_lt p n
    cases hp : p n
    · show (mk p n + 0).testBit q = _
      rw [Nat.add_zero, ih]
      by_cases e : q = n
      · subst e; simp [hp]
      · by_cases h : q < n
        · simp [h, Nat.lt_succ_of_lt h]
        · have : ¬ q < n + 1 := by omega
          simp [h, this]
    · show (mk p n + 2 ^ n).testBit q = _
      rw [Nat.add_comm]
      by_cases e : q = n
      · subst e
        rw [Nat.testBit_two_pow_add_eq, ih]
        simp [hp]
      · by_cases h : q < n
        · rw [Nat.testBit_two_pow_add_gt h, ih]
          simp [h, Nat.lt_succ_of_lt h]
        · have h2 : ¬ q < n + 1 := by omega
          have : (2 ^ n + mk p n).testBit q = false := by
            apply Nat.testBit_lt_two_pow
            have : 2 ^ (n + 1) ≤ 2 ^ q := Nat.pow_le_pow_right (by decide) (by omega)
            have e : 2 ^ (n + 1) = 2 ^ n + 2 ^ n := by rw [Nat.pow_succ]; omega
            omega
          rw [this]; simp [h2]
theorem mk_cg {p p' : Nat → Bool} : ∀ n : Nat, (∀ q : Nat, q < n → p q = p' q) → mk p n = mk p' n := by
  intro n
  induction n with
  | zero => intro _; rfl
  | succ n ih =>
    intro h
    show mk p n + _ = mk p' n + _
    rw [ih (fun q hq => h q (by omega)), h n (by omega)]
theorem am_bn {x : Nat} (_ : x < 2147483648) : (Int32.ofInt (x : Int)).toBitVec = BitVec.ofNat 32 x := by
  show BitVec.ofInt 32 (x : Int) = _
  exact BitVec.ofInt_natCast 32 x
theorem am_tn {x : Nat} (h : x < 2147483648) : (BitVec.ofNat 32 x).toInt = (x : Int) := by
  rw [BitVec.toInt_eq_toNat_of_lt]
  · rw [BitVec.toNat_ofNat, Nat.mod_eq_of_lt (by omega)]
  · rw [BitVec.toNat_ofNat, Nat.mod_eq_of_lt (by omega)]; omega
theorem am_orn {x y : Nat} (hx : x < 2147483648) (hy : y < 2147483648) : am_or (x : Int) (y : Int) = ((x ||| y : Nat) : Int) := by
  have hl : x ||| y < 2 ^ 31 := Nat.or_lt_two_pow (by omega) (by omega)
  unfold am_or
  show (Int32.ofInt (x : Int) ||| Int32.ofInt (y : Int)).toBitVec.toInt = _
  rw [Int32.toBitVec_or, am_bn hx, am_bn hy, ← BitVec.ofNat_or, am_tn (by omega)]
theorem am_andn {x y : Nat} (hx : x < 2147483648) (hy : y < 2147483648) : am_and (x : Int) (y : Int) = ((x &&& y : Nat) : Int) := by
  have hl : x &&& y < 2 ^ 31 := Nat.and_lt_two_pow _ (by omega)
  unfold am_and
  show (Int32.ofInt (x : Int) &&& Int32.ofInt (y : Int)).toBitVec.toInt = _
  rw [Int32.toBitVec_and, am_bn hx, am_bn hy, ← BitVec.ofNat_and, am_tn (by omega)]
theorem am_sm {q : Nat} (hq : q < 31) : ((Int32.ofInt (q : Int) &&& 31).toBitVec.smod 32).toNat = q := by
  have : ∀ q : Fin 31, ((Int32.ofInt ((q.val : Nat) : Int) &&& 31).toBitVec.smod 32).toNat = q.val := by decide +kernel
  exact this ⟨q, hq⟩
theorem am_shl1 {q : Nat} (hq : q < 31) : am_shl 1 (q : Int) = ((2 ^ q : Nat) : Int) := by
  have : ∀ q : Fin 31, am_shl 1 ((q.val : Nat) : Int) = ((2 ^ q.val : Nat) : Int) := by decide +kernel
  exact this ⟨q, hq⟩
theorem am_shrn {x q : Nat} (hx : x < 2147483648) (hq : q < 31) : am_shr (x : Int) (q : Int) = ((x >>> q : Nat) : Int) := by
  unfold am_shr
  show (Int32.ofInt (x : Int) >>> (Int32.ofInt (q : Int) &&& 31)).toBitVec.toInt = _
  rw [Int32.toBitVec_shiftRight, BitVec.sshiftRight', am_sm hq, am_bn hx, BitVec.toInt_sshiftRight, am_tn hx]
  rfl
/-- the bit of a row -/
theorem am_bit {x q : Nat} (hx : x < 2147483648) (hq : q < 31) : am_and (am_shr (x : Int) (q : Int)) 1 = (bif x.testBit q then 1 else 0) := by
  have h1 : x >>> q < 2147483648 := Nat.lt_of_le_of_lt (Nat.shiftRight_le x q) hx
  rw [am_shrn hx hq, show (1 : Int) = ((1 : Nat) : Int) from rfl, am_andn h1 (by decide)]
  rw [Nat.testBit, Nat.and_comm 1]
  have h2 : x >>> q &&& 1 = 0 ∨ x >>> q &&& 1 = 1 := by rw [Nat.and_one_is_mod]; omega
  rcases h2 with h | h <;> rw [h] <;> rfl
theorem am_bitm {p : Nat → Bool} {n q : Nat} (hn : n ≤ 12) (hq : q < n) : am_and (am_shr ((mk p n : Nat) : Int) (q : Int)) 1 = (bif p q then 1 else 0) := by
  have h := mk_lt p n
  have h2 : 2 ^ n ≤ 2 ^ 12 := Nat.pow_le_pow_right (by decide) hn
  rw [am_bit (by omega) (by omega), mk_bit]
  simp [hq]
/-- a row more -/
theorem am_orm {p : Nat → Bool} {n : Nat} (hn : n < 12) : am_or ((mk p n : Nat) : Int) (am_shl 1 (n : Int)) = ((mk p n + 2 ^ n : Nat) : Int) := by
  have h := mk_lt p n
  have h2 : 2 ^ n ≤ 2 ^ 11 := Nat.pow_le_pow_right (by decide) (by omega)
  rw [am_shl1 (by omega), am_orn (by omega) (by omega)]
  have e := Nat.two_pow_add_eq_or_of_lt h 1
  rw [Nat.mul_one] at e
  rw [Nat.or_comm, ← e, Nat.add_comm]
theorem am_or0 {x : Nat} (hx : x < 2147483648) : am_or (x : Int) 0 = (x : Int) := by
  rw [show (0 : Int) = ((0 : Nat) : Int) from rfl, am_orn hx (by decide), Nat.or_zero]
