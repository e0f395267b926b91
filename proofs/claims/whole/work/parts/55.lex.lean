section LEX2
variable {d n : Nat} {K : Nat → am_K} {I J : Nat → Nat → Int} {R : Nat → Nat → Option Nat} {Q : am_Q}
/-- where digits end: the loop -/
theorem c_digits {len p : Nat} (hB : am_B K R) (hl : I 13 1 = (len : Int)) (hL : len ≤ 1200) (post : ∀ (q : Nat) (num : Int), tb_run tb_dig (I 14) len p q → (q - p ≤ 3 → num = tb_dv (I 14) p (q - p)) → am_WP (d + 1) (151, 45, [.inr (.inl 13), .inl (p : Int), .inl (q : Int), .inl num, am_o, am_o], [], (0, 0), n, K, I, J, R) Q) : ∀ (m q : Nat) (num : Int), len ≤ q + m → p ≤ q → q ≤ len → (∀ j : Nat, p ≤ j → j < q → tb_dig (I 14 j)) → (q - p ≤ 3 → num = tb_dv (I 14) p (q - p)) → am_WP (d + 1) (151, 4, [.inr (.inl 13), .inl (p : Int), .inl (q : Int), .inl num, am_o, am_o], [], (0, 0), n, K, I, J, R) Q := by
  intro m
  induction m with
  | zero =>
    intro q num h1 h2 h3 h4 h5
    refine s_Tokens_cutDigits_4 ⟨k_13 hB, fun z1 hz1 _ _ => ⟨fun _ => post q num (tb_run_stop h2 h3 h4 (fun h => by omega)) h5, fun h => absurd h (by omega)⟩⟩
  | succ m ih =>
    intro q num h1 h2 h3 h4 h5
    refine s_Tokens_cutDigits_4 ⟨k_13 hB, fun z1 hz1 _ _ => ⟨fun _ => post q num (tb_run_stop h2 h3 h4 (fun h => by omega)) h5, fun hlt => ⟨k_13 hB, 14, r_13_0 hB, 1200, k_14 hB, ⟨by omega, by omega⟩, fun z3 hz3 _ _ => c_isDigit (fun hd => ⟨1, rfl, ?_⟩) (fun hd => ⟨0, rfl, ?_⟩)⟩⟩⟩
    · refine s_Tokens_cutDigits_21 ⟨fun h => absurd h (by decide), fun _ => fun w1 q1 hw1 _ _ => ⟨k_13 hB, 14, r_13_0 hB, 1200, k_14 hB, ⟨by omega, by omega⟩, fun w3 hw3 _ _ w5 q5 hw5 _ _ w6 q6 hw6 _ _ w7 q7 hw7 _ _ => ?_⟩⟩
      have e7 : w7 = ((q + 1 : Nat) : Int) := by omega
      have ez : z3 = I 14 q := hz3
      have ew : w3 = I 14 q := hw3
      have hd2 : tb_dig (I 14 q) := by rw [← ez]; exact hd
      rw [e7]
      refine ih (q + 1) w6 (by omega) (by omega) (by omega) (tb_all_next h4 hd2) (fun hk => ?_)
      have hn := h5 (by omega)
      have hr := tb_dv_rg (b := I 14) (p := p) (q - p) (fun j a c => h4 j a (by omega))
      have hp10 : (10 : Int) ^ (q - p) ≤ 100 := by
        have : q - p = 0 ∨ q - p = 1 ∨ q - p = 2 := by omega
        rcases this with e | e | e <;> rw [e] <;> decide
      have e8 : q + 1 - p = (q - p) + 1 := by omega
      rw [e8]
      show w6 = 10 * tb_dv (I 14) p (q - p) + (I 14 (p + (q - p)) - 48)
      rw [show p + (q - p) = q by omega]
      unfold tb_dig at hd2
      omega
    · have ez : z3 = I 14 q := hz3
      exact s_Tokens_cutDigits_21 ⟨fun _ => post q num (tb_run_stop h2 h3 h4 (fun _ => by rw [← ez]; exact hd)) h5, fun h => absurd rfl h⟩
theorem c_cutDigits {len p c : Nat} (hB : am_B K R) (hl : I 13 1 = (len : Int)) (hL : len ≤ 1200) (hp : p < len) (hd : tb_dig (I 14 p)) (hc : I 13 6 = (c : Int)) (hc2 : c < 1201) (post : ∀ (q : Nat) (num k : Int), tb_run tb_dig (I 14) len p q → p < q → (q - p ≤ 3 → num = tb_dv (I 14) p (q - p)) → ((q - p = 1 ∨ q - p ≤ 3 ∧ I 14 p ≠ 48) ∧ k = 5 ∨ ¬ (q - p = 1 ∨ q - p ≤ 3 ∧ I 14 p ≠ 48) ∧ k = 1) → Q (some (.inl (q : Int))) (n, K, am_tk I c k p num, am_u J 18 c 0, R)) : am_WP (d + 1) (am_entry 151 [.inr (.inl 13), .inl (p : Int)] (n, K, I, J, R)) Q := by
  refine e_Tokens_cutDigits (c_digits hB hl hL ?_ len p 0 (by omega) (Nat.le_refl _) (by omega) (fun j a c => by omega) (fun _ => by rw [Nat.sub_self]; rfl))
  intro q num hr hnum
  have hpq : p < q := by
    rcases Nat.lt_or_ge p q with h | h
    · exact h
    · have e : q = p := by have := hr.1; omega
      rw [e] at hr
      exact absurd hd (hr.2.2.2 hp)
  have hq := hr.2.1
  have fin : ∀ (k y : Int) (z1 : Int), ((q - p = 1 ∨ q - p ≤ 3 ∧ I 14 p ≠ 48) ∧ k = 5 ∨ ¬ (q - p = 1 ∨ q - p ≤ 3 ∧ I 14 p ≠ 48) ∧ k = 1) → am_WP (d + 1) (151, 91, [.inr (.inl 13), .inl (p : Int), .inl (q : Int), .inl num, .inl z1, .inl y], [.inl k, .inr (.inl 13)], (0, 0), n, K, I, J, R) Q := by
    intro k y z1 hk
    refine s_Tokens_cutDigits_91 ⟨k_13 hB, c_add hB hc hc2 ⟨rfl, s_Tokens_cutDigits_97 (post q num k hr hpq hnum hk)⟩⟩
  have g1 : ∀ z1 : Int, (q - p = 1 ∨ q - p ≤ 3 ∧ I 14 p ≠ 48) → am_WP (d + 1) (151, 78, [.inr (.inl 13), .inl (p : Int), .inl (q : Int), .inl num, .inl z1, am_o], [.inl 1], (0, 0), n, K, I, J, R) Q := fun z1 h => s_Tokens_cutDigits_78 ⟨fun q => absurd q (by decide), fun _ => fin 5 _ _ (Or.inl ⟨h, rfl⟩)⟩
  have g0 : ∀ z1 : Int, ¬ (q - p = 1 ∨ q - p ≤ 3 ∧ I 14 p ≠ 48) → am_WP (d + 1) (151, 77, [.inr (.inl 13), .inl (p : Int), .inl (q : Int), .inl num, .inl z1, am_o], [], (0, 0), n, K, I, J, R) Q := fun z1 h => s_Tokens_cutDigits_77 (s_Tokens_cutDigits_78 ⟨fun _ => fin 1 _ _ (Or.inr ⟨h, rfl⟩), fun q => absurd rfl q⟩)
  refine s_Tokens_cutDigits_45 (fun z1 q1 hz1 _ _ => ?_)
  refine ⟨fun e => g1 z1 (Or.inl (by omega)), fun ne => ⟨fun h => g0 z1 (by omega), fun h => ⟨k_13 hB, 14, r_13_0 hB, 1200, k_14 hB, ⟨by omega, by omega⟩, fun z3 hz3 _ _ => ?_⟩⟩⟩
  have ez : z3 = I 14 p := hz3
  exact ⟨fun e => g0 z1 (by omega), fun ne2 => g1 z1 (Or.inr ⟨by omega, by omega⟩)⟩
/-- a text of the constants: object a, its bytes a + 1, so many -/
def am_tx (K : Nat → am_K) (I : Nat → Nat → Int) (R : Nat → Nat → Option Nat) (a m : Nat) : Prop := K a = .inl 11 ∧ R a 0 = some (a + 1) ∧ K (a + 1) = .inr (4, m) ∧ a + 1 < am_nc ∧ I a 1 = 0 ∧ (m : Int) ≤ 100 ∧ ∀ j : Nat, j < m → 0 ≤ I (a + 1) j ∧ I (a + 1) j ≤ 127
theorem am_shr0 {x : Int} (h : -2147483648 ≤ x ∧ x ≤ 2147483647) : am_shr x 0 = x := by
  unfold am_shr
  have e : Int32.ofInt x >>> (Int32.ofInt 0 &&& 31) = Int32.ofInt x := by
    apply Int32.toBitVec_inj.mp
    show (Int32.ofInt x).toBitVec.sshiftRight ((Int32.ofInt 0 &&& 31).toBitVec.smod 32#32).toNat = _
    rw [show ((Int32.ofInt 0 &&& 31).toBitVec.smod 32#32).toNat = 0 by decide]
    simp
  rw [e, am_to h]
theorem c_length {a m : Nat} (ht : am_tx K I R a m) (post : Q (some (.inl (m : Int))) (n, K, I, J, R)) : am_WP (d + 1) (am_entry 173 [.inr (.inl a)] (n, K, I, J, R)) Q := by
  obtain ⟨t1, t2, t3, t4, t5, t6, -⟩ := ht
  refine e_String_length ⟨t1, a + 1, t2, 4, m, t3, Or.inl ⟨t4, by decide, by decide⟩, by omega, t1, e_String_coder ⟨fun h => absurd h (by decide), fun _ => ⟨t1, fun z1 hz1 _ _ => s_String_coder_14 ⟨by omega, z1, rfl, s_String_length_9 (fun z hz _ _ => ?_)⟩⟩⟩⟩
  have e1 : z1 = 0 := hz1.trans t5
  have ez : z = (m : Int) := by rw [hz, e1, am_shr0 ⟨by omega, by omega⟩]
  rw [ez]
  exact post
theorem c_latin {a m : Nat} (ht : am_tx K I R a m) (post : Q (some (.inl 1)) (n, K, I, J, R)) : am_WP d (am_entry 178 [.inr (.inl a)] (n, K, I, J, R)) Q := by
  obtain ⟨t1, t2, t3, t4, t5, t6, -⟩ := ht
  exact e_String_isLatin1 ⟨fun h => absurd h (by decide), fun _ => ⟨t1, fun z1 hz1 _ _ => ⟨fun h => absurd (hz1.trans t5) h, fun _ => s_String_isLatin1_18 ⟨Or.inr rfl, post⟩⟩⟩⟩
theorem am_i2c_e {x : Int} (h : 0 ≤ x ∧ x ≤ 65535) : am_i2c x = x := by
  unfold am_i2c
  have e : ((Int32.ofInt x).toUInt32 % 65536).toInt32 = Int32.ofInt x := by
    obtain ⟨n, rfl⟩ := Int.eq_ofNat_of_zero_le h.1
    apply Int32.toBitVec_inj.mp
    apply BitVec.eq_of_toNat_eq
    have h2 : n < 65536 := by omega
    simp [Int32.toBitVec_ofInt, UInt32.toBitVec_mod]
    omega
  rw [e, am_to (by omega)]
theorem c_charAt {a m j : Nat} (ht : am_tx K I R a m) (hj : j < m) (post : Q (some (.inl (I (a + 1) j))) (n, K, I, J, R)) : am_WP (d + 4) (am_entry 174 [.inr (.inl a), .inl (j : Int)] (n, K, I, J, R)) Q := by
  have ht' := ht
  obtain ⟨t1, t2, t3, t4, t5, t6, t7⟩ := ht
  refine e_String_charAt ⟨t1, c_latin ht' ⟨1, rfl, s_String_charAt_4 ⟨fun h => absurd h (by decide), fun _ => ⟨t1, a + 1, t2, e_StringLatin1_charAt ⟨4, m, t3, Or.inl ⟨t4, by decide, by decide⟩, by omega, ⟨by omega, by omega⟩, m, Or.inr t3, ⟨by omega, by omega⟩, fun z3 hz3 _ _ z5 hz5 _ _ z6 hz6 _ _ => ?_⟩⟩⟩⟩⟩
  have e3 : z3 = I (a + 1) j := hz3
  have r := t7 j hj
  have e5 : z5 = I (a + 1) j := by
    rw [hz5, e3, am_and255_mod ⟨by omega, by omega⟩]
    omega
  have e6 : z6 = I (a + 1) j := by rw [hz6, e5, am_i2c_e ⟨by omega, by omega⟩]
  rw [e6]
  exact ⟨⟨by omega, by omega⟩, _, rfl, s_String_charAt_15 ⟨⟨by omega, by omega⟩, post⟩⟩
end LEX2
