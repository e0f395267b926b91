/-! SEARCH: the class's rows and spots -/
theorem am_low {ρ k : Nat} (hρ : ρ < 12) (h : 2 ^ (ρ + 1) * k + 2 ^ ρ < 4096) : am_and (am_xor ((2 ^ (ρ + 1) * k + 2 ^ ρ : Nat) : Int) (-1)) (((2 ^ (ρ + 1) * k + 2 ^ ρ : Nat) : Int) - 1) = ((2 ^ ρ - 1 : Nat) : Int) := by
  have hp : 1 ≤ 2 ^ ρ := Nat.one_le_pow _ _ (by decide)
  have h2 : 2 ^ ρ < 2 ^ (ρ + 1) := Nat.pow_lt_pow_right (by decide) (by omega)
  have h3 : 2 ^ ρ ≤ 2 ^ 11 := Nat.pow_le_pow_right (by decide) (by omega)
  have e : ((2 ^ (ρ + 1) * k + 2 ^ ρ : Nat) : Int) - 1 = ((2 ^ (ρ + 1) * k + (2 ^ ρ - 1) : Nat) : Int) := by omega
  rw [e]
  unfold am_and am_xor
  rw [Int32.ofInt_toInt]
  show ((Int32.ofInt ((2 ^ (ρ + 1) * k + 2 ^ ρ : Nat) : Int) ^^^ Int32.ofInt (-1)) &&& Int32.ofInt ((2 ^ (ρ + 1) * k + (2 ^ ρ - 1) : Nat) : Int)).toBitVec.toInt = _
  rw [Int32.toBitVec_and, Int32.toBitVec_xor, am_bn (by omega), am_bn (by omega)]
  have e1 : (Int32.ofInt (-1)).toBitVec = BitVec.allOnes 32 := by decide
  rw [e1, ← am_tn (show 2 ^ ρ - 1 < 2147483648 by omega)]
  congr 1
  apply BitVec.eq_of_getLsbD_eq
  intro i hi
  rw [BitVec.getLsbD_and, BitVec.getLsbD_xor, BitVec.getLsbD_allOnes, BitVec.getLsbD_ofNat, BitVec.getLsbD_ofNat, BitVec.getLsbD_ofNat, Nat.testBit_two_pow_sub_one, Nat.testBit_two_pow_mul_add _ h2, Nat.testBit_two_pow_mul_add _ (show 2 ^ ρ - 1 < 2 ^ (ρ + 1) by omega)]
  simp only [hi, decide_true, Bool.true_and]
  by_cases c : i < ρ + 1
  · rw [if_pos c, if_pos c, Nat.testBit_two_pow_sub_one, Nat.testBit_two_pow]
    by_cases c2 : i < ρ
    · simp [c2]; omega
    · simp [c2]
  · rw [if_neg c, if_neg c]
    have : ¬ i < ρ := by omega
    simp [this]
/-- the lowest row of a set -/
theorem mk_low {q : Nat → Bool} : ∀ n : Nat, (mk q n = 0 ∧ ∀ j : Nat, j < n → q j = false) ∨ ∃ ρ k : Nat, ρ < n ∧ q ρ = true ∧ (∀ j : Nat, j < ρ → q j = false) ∧ mk q n = 2 ^ (ρ + 1) * k + 2 ^ ρ := by
  intro n
  induction n with
  | zero => left; exact ⟨rfl, fun j hj => absurd hj (Nat.not_lt_zero j)⟩
  | succ n ih =>
    have e : mk q (n + 1) = mk q n + (bif q n then 2 ^ n else 0) := rfl
    rcases ih with ⟨h1, h2⟩ | ⟨ρ, k, h1, h2, h3, h4⟩
    · cases hq : q n with
      | false =>
        left
        refine ⟨by rw [e, h1, hq]; rfl, fun j hj => ?_⟩
        by_cases c : j = n
        · rw [c]; exact hq
        · exact h2 j (by omega)
      | true =>
        right
        refine ⟨n, 0, by omega, hq, h2, ?_⟩
        rw [e, h1, hq]
        simp
    · right
      cases hq : q n with
      | false =>
        refine ⟨ρ, k, by omega, h2, h3, ?_⟩
        rw [e, h4, hq]
        simp
      | true =>
        refine ⟨ρ, k + 2 ^ (n - (ρ + 1)), by omega, h2, h3, ?_⟩
        rw [e, h4, hq, Nat.mul_add, ← Nat.pow_add, show ρ + 1 + (n - (ρ + 1)) = n by omega]
        show 2 ^ (ρ + 1) * k + 2 ^ ρ + 2 ^ n = _
        omega
section XNT
variable {d n0 : Nat} {C : Nat → am_K} {I J : Nat → Nat → Int} {R : Nat → Nat → Option Nat} {Q : am_Q}
theorem x_ntz {q : Nat → Bool} (some' : ∀ ρ : Nat, ρ < 12 → q ρ = true → (∀ j : Nat, j < ρ → q j = false) → Q (some (.inl (ρ : Int))) (n0, C, I, J, R)) (none' : mk q 12 = 0 → (∀ j : Nat, j < 12 → q j = false) → Q (some (.inl 32)) (n0, C, I, J, R)) : am_WP d (am_entry 183 [.inl ((mk q 12 : Nat) : Int)] (n0, C, I, J, R)) Q := by
  have hl := mk_lt q 12
  rcases mk_low (q := q) 12 with ⟨h1, h2⟩ | ⟨ρ, k, h1, h2, h3, h4⟩
  · have fin := none' h1 h2
    rw [h1]
    refine e_Integer_numberOfTrailingZeros (am_nm_k (show am_xor 0 (-1) = -1 by decide +kernel) ?_)
    rintro _ rfl _ _
    refine am_ar_i (by decide) (by decide) (am_nm_k (show am_and (-1) (0 - 1) = -1 by decide +kernel) ?_)
    rintro _ rfl _ _
    refine ⟨fun h => absurd h (by decide), fun _ => am_nm_k (show am_and (-1) 32 = 32 by decide +kernel) ?_⟩
    rintro _ rfl _ _
    exact fin
  · have fin := some' ρ h1 h2 h3
    rw [h4] at hl ⊢
    have low := am_low h1 hl
    generalize hx : 2 ^ (ρ + 1) * k + 2 ^ ρ = x at low hl
    refine e_Integer_numberOfTrailingZeros (fun z1 hz1 _ _ => am_ar_i (by omega) (by omega) ?_)
    rw [hz1]
    refine am_nm_k low (fun z3 hz3 _ _ => ?_)
    rw [hz3]
    clear low hz3 h4 hx hl
    have c : ρ = 0 ∨ ρ = 1 ∨ ρ = 2 ∨ ρ = 3 ∨ ρ = 4 ∨ ρ = 5 ∨ ρ = 6 ∨ ρ = 7 ∨ ρ = 8 ∨ ρ = 9 ∨ ρ = 10 ∨ ρ = 11 := by omega
    rcases c with c | c
    · subst c
      refine ⟨fun h => absurd h (by decide), fun _ => am_nm_k (show am_and ((2 ^ 0 - 1 : Nat) : Int) 32 = 0 by decide +kernel) ?_⟩
      rintro _ rfl _ _
      exact fin
    · have key : ∀ (y : Nat) (b8 b4 b2 : Bool), (y : Int) = ((2 ^ ρ - 1 : Nat) : Int) → 0 < y → y ≤ 65536 → am_WP d (183, 34, [.inl (y : Int), .inl 1], [], (0, 0), n0, C, I, J, R) Q → ((0 : Int) < (y : Int) → ((y : Int) ≤ 65536 → am_WP d (183, 34, [.inl (y : Int), .inl 1], [], (0, 0), n0, C, I, J, R) Q) ∧ (65536 < (y : Int) → am_ar (1 + 16) fun z4 => am_nm (am_ush (y : Int) 16) fun z5 => am_WP d (183, 34, [.inl z5, .inl z4], [], (0, 0), n0, C, I, J, R) Q)) ∧ ((y : Int) ≤ (0 : Int) → am_nm (am_and (y : Int) 32) fun z6 => Q (some (.inl z6)) (n0, C, I, J, R)) := by
        intro y _ _ _ _ h0 h1 h
        exact ⟨fun _ => ⟨fun _ => h, fun h => absurd h (by omega)⟩, fun h => absurd h (by omega)⟩
      have s62a : ∀ (y z c : Int), y ≤ 4 → am_ush y 1 = z → -2147483648 ≤ c + z → c + z ≤ 2147483647 → c + z = (ρ : Int) → am_WP d (183, 62, [.inl y, .inl c], [], (0, 0), n0, C, I, J, R) Q := by
        intro y z c hy hz b1 b2 e
        refine s_Integer_numberOfTrailingZeros_62 ⟨fun _ => am_nm_k hz (fun z1 hz1 _ _ => ?_), fun h => absurd h (by omega)⟩
        rw [hz1]
        refine am_ar_i b1 b2 ?_
        rw [e]; exact fin
      have s62b : ∀ (y z z' c : Int), 4 < y → am_ush y 2 = z → am_ush z 1 = z' → 0 ≤ c → c ≤ 100 → 0 ≤ z' → c + 2 + z' = (ρ : Int) → am_WP d (183, 62, [.inl y, .inl c], [], (0, 0), n0, C, I, J, R) Q := by
        intro y z z' c hy hz hz' b1 b2 b3 e
        refine s_Integer_numberOfTrailingZeros_62 ⟨fun h => absurd h (by omega), fun _ => am_ar_i (by omega) (by omega) (am_nm_k hz (fun z1 hz1 _ _ => ?_))⟩
        rw [hz1]
        refine am_nm_k hz' (fun z2 hz2 _ _ => ?_)
        rw [hz2]
        refine am_ar_i (by omega) (by omega) ?_
        rw [e]; exact fin
      have s49a : ∀ (y c : Int), y ≤ 16 → am_WP d (183, 62, [.inl y, .inl c], [], (0, 0), n0, C, I, J, R) Q → am_WP d (183, 49, [.inl y, .inl c], [], (0, 0), n0, C, I, J, R) Q := fun y c hy h => s_Integer_numberOfTrailingZeros_49 ⟨fun _ => h, fun h => absurd h (by omega)⟩
      have s49b : ∀ (y z c : Int), 16 < y → am_ush y 4 = z → 0 ≤ c → c ≤ 100 → am_WP d (183, 62, [.inl z, .inl (c + 4)], [], (0, 0), n0, C, I, J, R) Q → am_WP d (183, 49, [.inl y, .inl c], [], (0, 0), n0, C, I, J, R) Q := by
        intro y z c hy hz b1 b2 h
        refine s_Integer_numberOfTrailingZeros_49 ⟨fun h => absurd h (by omega), fun _ => am_ar_i (by omega) (by omega) (am_nm_k hz (fun z1 hz1 _ _ => ?_))⟩
        rw [hz1]; exact h
      have s34a : ∀ (y c : Int), y ≤ 256 → am_WP d (183, 49, [.inl y, .inl c], [], (0, 0), n0, C, I, J, R) Q → am_WP d (183, 34, [.inl y, .inl c], [], (0, 0), n0, C, I, J, R) Q := fun y c hy h => s_Integer_numberOfTrailingZeros_34 ⟨fun _ => h, fun h => absurd h (by omega)⟩
      have s34b : ∀ (y z c : Int), 256 < y → am_ush y 8 = z → 0 ≤ c → c ≤ 100 → am_WP d (183, 49, [.inl z, .inl (c + 8)], [], (0, 0), n0, C, I, J, R) Q → am_WP d (183, 34, [.inl y, .inl c], [], (0, 0), n0, C, I, J, R) Q := by
        intro y z c hy hz b1 b2 h
        refine s_Integer_numberOfTrailingZeros_34 ⟨fun h => absurd h (by omega), fun _ => am_ar_i (by omega) (by omega) (am_nm_k hz (fun z1 hz1 _ _ => ?_))⟩
        rw [hz1]; exact h
      refine key (2 ^ ρ - 1) true true true rfl ?_ ?_ ?_
      · have : 2 ^ 1 ≤ 2 ^ ρ := Nat.pow_le_pow_right (by decide) (by omega)
        omega
      · have : 2 ^ ρ ≤ 2 ^ 11 := Nat.pow_le_pow_right (by decide) (by omega)
        omega
      · rcases c with c | c | c | c | c | c | c | c | c | c | c <;> subst c
        · exact s34a _ _ (by decide) (s49a _ _ (by decide) (s62a _ 0 _ (by decide) (by decide +kernel) (by decide) (by decide) (by decide)))
        · exact s34a _ _ (by decide) (s49a _ _ (by decide) (s62a _ 1 _ (by decide) (by decide +kernel) (by decide) (by decide) (by decide)))
        · exact s34a _ _ (by decide) (s49a _ _ (by decide) (s62b _ 1 0 _ (by decide) (by decide +kernel) (by decide +kernel) (by decide) (by decide) (by decide) (by decide)))
        · exact s34a _ _ (by decide) (s49a _ _ (by decide) (s62b _ 3 1 _ (by decide) (by decide +kernel) (by decide +kernel) (by decide) (by decide) (by decide) (by decide)))
        · exact s34a _ _ (by decide) (s49b _ 1 _ (by decide) (by decide +kernel) (by decide) (by decide) (s62a _ 0 _ (by decide) (by decide +kernel) (by decide) (by decide) (by decide)))
        · exact s34a _ _ (by decide) (s49b _ 3 _ (by decide) (by decide +kernel) (by decide) (by decide) (s62a _ 1 _ (by decide) (by decide +kernel) (by decide) (by decide) (by decide)))
        · exact s34a _ _ (by decide) (s49b _ 7 _ (by decide) (by decide +kernel) (by decide) (by decide) (s62b _ 1 0 _ (by decide) (by decide +kernel) (by decide +kernel) (by decide) (by decide) (by decide) (by decide)))
        · exact s34a _ _ (by decide) (s49b _ 15 _ (by decide) (by decide +kernel) (by decide) (by decide) (s62b _ 3 1 _ (by decide) (by decide +kernel) (by decide +kernel) (by decide) (by decide) (by decide) (by decide)))
        · exact s34b _ 1 _ (by decide) (by decide +kernel) (by decide) (by decide) (s49a _ _ (by decide) (s62a _ 0 _ (by decide) (by decide +kernel) (by decide) (by decide) (by decide)))
        · exact s34b _ 3 _ (by decide) (by decide +kernel) (by decide) (by decide) (s49a _ _ (by decide) (s62a _ 1 _ (by decide) (by decide +kernel) (by decide) (by decide) (by decide)))
        · exact s34b _ 7 _ (by decide) (by decide +kernel) (by decide) (by decide) (s49a _ _ (by decide) (s62b _ 1 0 _ (by decide) (by decide +kernel) (by decide +kernel) (by decide) (by decide) (by decide) (by decide)))
end XNT
