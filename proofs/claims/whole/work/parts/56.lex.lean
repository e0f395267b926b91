theorem am_i2b_e {x : Int} (h : -2147483648 ≤ x ∧ x ≤ 2147483647) : am_i2b x = x.bmod 256 := by
  unfold am_i2b
  rw [Int8.toInt_toInt32, Int32.toInt_toInt8, am_to h]
def tb_sp (I : Nat → Nat → Int) (a m p s : Nat) : Prop := m = s ∧ ∀ j : Nat, j < s → I 14 (p + j) = I (a + 1) j
def tb_kind (I : Nat → Nat → Int) (p s : Nat) (sm : Prop) (k : Int) : Prop :=
  s = 1 ∧ sm ∧ k = 4 ∨ s = 1 ∧ ¬ sm ∧ k = 2 ∨ s ≠ 1 ∧ ¬ (sm ∧ s ≤ 8) ∧ k = 1 ∨ s ≠ 1 ∧ (sm ∧ s ≤ 8) ∧ (tb_sp I 3 4 p s ∧ k = 6 ∨ ¬ tb_sp I 3 4 p s ∧ tb_sp I 5 3 p s ∧ k = 7 ∨ ¬ tb_sp I 3 4 p s ∧ ¬ tb_sp I 5 3 p s ∧ tb_sp I 7 5 p s ∧ k = 8 ∨ ¬ tb_sp I 3 4 p s ∧ ¬ tb_sp I 5 3 p s ∧ ¬ tb_sp I 7 5 p s ∧ tb_sp I 9 4 p s ∧ k = 9 ∨ ¬ tb_sp I 3 4 p s ∧ ¬ tb_sp I 5 3 p s ∧ ¬ tb_sp I 7 5 p s ∧ ¬ tb_sp I 9 4 p s ∧ k = 3)
section LEX3
variable {d n : Nat} {K : Nat → am_K} {I J : Nat → Nat → Int} {R : Nat → Nat → Option Nat} {Q : am_Q}
theorem c_indexOfChar_l {a m : Nat} {x y : Int} (ht : am_tx K I R a m) (found : ∀ j : Nat, j < m → I (a + 1) j = y → Q (some (.inl (j : Int))) (n, K, I, J, R)) (none : (∀ j : Nat, j < m → I (a + 1) j ≠ y) → Q (some (.inl (-1))) (n, K, I, J, R)) : ∀ (k j : Nat), m ≤ j + k → j ≤ m → (∀ i : Nat, i < j → I (a + 1) i ≠ y) → am_WP d (182, 7, [.inr (.inl (a + 1)), .inl x, .inl 0, .inl (m : Int), .inl y, .inl (j : Int)], [], (0, 0), n, K, I, J, R) Q := by
  obtain ⟨t1, t2, t3, t4, t5, t6, t7⟩ := ht
  intro k
  induction k with
  | zero =>
    intro j h1 h2 h3
    exact s_StringLatin1_indexOfChar_7 ⟨fun _ => none (fun i hi => h3 i (by omega)), fun h => absurd h (by omega)⟩
  | succ k ih =>
    intro j h1 h2 h3
    refine s_StringLatin1_indexOfChar_7 ⟨fun h => none (fun i hi => h3 i (by omega)), fun hlt => ⟨m, Or.inr t3, ⟨by omega, by omega⟩, fun z1 hz1 _ _ => ⟨fun ne => fun z3 q3 hz3 _ _ => ?_, fun e => found j (by omega) ?_⟩⟩⟩
    · have e3 : z3 = ((j + 1 : Nat) : Int) := by omega
      have e1 : z1 = I (a + 1) j := hz1
      rw [e3]
      refine ih (j + 1) (by omega) (by omega) (fun i hi => ?_)
      by_cases e : i = j
      · rw [e, ← e1]; exact ne
      · exact h3 i (by omega)
    · rw [← e]; exact hz1.symm
theorem c_indexOf {a m : Nat} {x : Int} (ht : am_tx K I R a m) (hm : 0 < m) (hx : 0 ≤ x ∧ x ≤ 255) (post : ∀ z : Int, ((∃ j : Nat, j < m ∧ I (a + 1) j = x) ∧ 0 ≤ z ∨ (¬ ∃ j : Nat, j < m ∧ I (a + 1) j = x) ∧ z < 0) → Q (some (.inl z)) (n, K, I, J, R)) : am_WP (d + 4) (am_entry 175 [.inr (.inl a), .inl x] (n, K, I, J, R)) Q := by
  have ht' := ht
  obtain ⟨t1, t2, t3, t4, t5, t6, t7⟩ := ht
  have out : ∀ z : Int, ((∃ j : Nat, j < m ∧ I (a + 1) j = x) ∧ 0 ≤ z ∨ (¬ ∃ j : Nat, j < m ∧ I (a + 1) j = x) ∧ z < 0) → am_WP (d + 3) (176, 20, [.inr (.inl a), .inl x, .inl 0], [.inl z], (0, 0), n, K, I, J, R) (fun v1 s2 => ∃ z3 : Int, v1 = some (.inl z3) ∧ am_WP (d + 4) (175, 6, [.inr (.inl a), .inl x], [.inl z3], (0, 0), s2) Q) := fun z hz => s_String_indexOf_1_20 ⟨z, rfl, s_String_indexOf_0_6 (post z hz)⟩
  refine e_String_indexOf_0 ⟨t1, e_String_indexOf_1 ⟨t1, c_latin ht' ⟨1, rfl, s_String_indexOf_1_4 ⟨fun h => absurd h (by decide), fun _ => ⟨t1, a + 1, t2, t1, c_length ht' ⟨(m : Int), rfl, s_String_indexOf_1_17 (e_StringLatin1_indexOf (e_StringLatin1_canEncode ⟨fun h => absurd h (by omega), fun _ => ⟨fun h => absurd h (by omega), fun _ => s_StringLatin1_canEncode_16 ⟨Or.inr rfl, 1, rfl, s_StringLatin1_indexOf_4 ⟨fun _ => fun z1 hz1 _ _ => ?_, fun h => absurd h (by decide)⟩⟩⟩⟩))⟩⟩⟩⟩⟩⟩
  have e1 : z1 = 0 := by rw [hz1]; simp
  subst e1
  refine ⟨4, m, t3, Or.inl ⟨t4, by decide, by decide⟩, by omega, fun z4 hz4 _ _ => ?_⟩
  have e4 : z4 = (m : Int) := by rw [hz4]; simp
  subst e4
  refine ⟨fun _ => e_StringLatin1_indexOfChar (fun w hw _ _ => ?_), fun h => absurd h (by omega)⟩
  have hw2 : w = x ∧ x ≤ 127 ∨ w < 0 ∧ 127 < x := by
    rw [hw, am_i2b_e ⟨by omega, by omega⟩, Int.bmod_def]
    split <;> omega
  have key : ∀ j : Nat, j < m → (I (a + 1) j = w ↔ I (a + 1) j = x) := by
    intro j hj
    have := t7 j hj
    omega
  refine c_indexOfChar_l ht' (fun j hj e => ⟨(j : Int), rfl, s_StringLatin1_indexOf_36 ⟨(j : Int), rfl, out _ (Or.inl ⟨⟨j, hj, (key j hj).mp e⟩, by omega⟩)⟩⟩) (fun h => ⟨-1, rfl, s_StringLatin1_indexOf_36 ⟨-1, rfl, out _ (Or.inr ⟨?_, by decide⟩)⟩⟩) m 0 (by omega) (by omega) (fun i hi => by omega)
  rintro ⟨j, hj, e⟩
  exact h j hj ((key j hj).mpr e)
theorem c_spells {a m p s len : Nat} (hB : am_B K R) (ht : am_tx K I R a m) (hps : p + s ≤ len) (hL : len ≤ 1200) (yes : tb_sp I a m p s → Q (some (.inl 1)) (n, K, I, J, R)) (no : ¬ tb_sp I a m p s → Q (some (.inl 0)) (n, K, I, J, R)) : am_WP (d + 5) (am_entry 150 [.inr (.inl 13), .inr (.inl a), .inl (p : Int), .inl (s : Int)] (n, K, I, J, R)) Q := by
  have ht' := ht
  obtain ⟨t1, t2, t3, t4, t5, t6, t7⟩ := ht
  refine e_Tokens_spells ⟨t1, c_length ht' ⟨(m : Int), rfl, s_Tokens_spells_4 ⟨fun e => ?_, fun ne => ⟨Or.inl rfl, no (fun q => ne (by rw [q.1]))⟩⟩⟩⟩
  have em : m = s := by omega
  have loop : ∀ (k j : Nat), s ≤ j + k → j ≤ s → (∀ i : Nat, i < j → I 14 (p + i) = I (a + 1) i) → am_WP (d + 5) (150, 13, [.inr (.inl 13), .inr (.inl a), .inl (p : Int), .inl (s : Int), .inl (j : Int)], [], (0, 0), n, K, I, J, R) Q := by
    intro k
    induction k with
    | zero =>
      intro j h1 h2 h3
      exact s_Tokens_spells_13 ⟨fun _ => ⟨Or.inr rfl, yes ⟨em, fun i hi => h3 i (by omega)⟩⟩, fun h => absurd h (by omega)⟩
    | succ k ih =>
      intro j h1 h2 h3
      refine s_Tokens_spells_13 ⟨fun h => ⟨Or.inr rfl, yes ⟨em, fun i hi => h3 i (by omega)⟩⟩, fun hlt => ⟨k_13 hB, 14, r_13_0 hB, fun z2 q2 hz2 _ _ => ⟨1200, k_14 hB, ⟨by omega, by omega⟩, fun z3 hz3 _ _ => ⟨t1, c_charAt ht' (by omega) ⟨_, rfl, s_Tokens_spells_34 ⟨fun e => fun w q hw _ _ => ?_, fun ne => ⟨Or.inl rfl, no (fun q => ?_)⟩⟩⟩⟩⟩⟩⟩
      · have e2 : z2.toNat = p + j := by omega
        rw [e2] at hz3
        have ew : w = ((j + 1 : Nat) : Int) := by omega
        rw [ew]
        refine ih (j + 1) (by omega) (by omega) (fun i hi => ?_)
        by_cases ei : i = j
        · rw [ei, ← hz3]; exact e
        · exact h3 i (by omega)
      · have e2 : z2.toNat = p + j := by omega
        rw [e2] at hz3
        exact ne (hz3.trans (q.2 j (by omega)))
  exact loop s 0 (by omega) (by omega) (fun i hi => by omega)
theorem c_kindOfLetters {p s len : Nat} {x : Int} {sm : Prop} (hB : am_B K R) (h3 : am_tx K I R 3 4) (h5 : am_tx K I R 5 3) (h7 : am_tx K I R 7 5) (h9 : am_tx K I R 9 4) (hps : p + s ≤ len) (hL : len ≤ 1200) (hx : x = 1 ∧ sm ∨ x = 0 ∧ ¬ sm) (post : ∀ k : Int, tb_kind I p s sm k → Q (some (.inl k)) (n, K, I, J, R)) : am_WP (d + 6) (am_entry 149 [.inr (.inl 13), .inl (p : Int), .inl (s : Int), .inl x] (n, K, I, J, R)) Q := by
  refine e_Tokens_kindOfLetters ⟨fun n1 => ⟨fun e0 => post 1 (Or.inr (Or.inr (Or.inl ⟨by omega, ?_, rfl⟩))), fun ne0 => ⟨fun h8 => ⟨k_13 hB, ?_⟩, fun h8 => post 1 (Or.inr (Or.inr (Or.inl ⟨by omega, fun q => by omega, rfl⟩)))⟩⟩, fun e1 => ⟨fun e0 => s_Tokens_kindOfLetters_14 (post 2 (Or.inr (Or.inl ⟨by omega, ?_, rfl⟩))), fun ne0 => s_Tokens_kindOfLetters_14 (post 4 (Or.inl ⟨by omega, ?_, rfl⟩))⟩⟩
  · rintro ⟨q, -⟩
    rcases hx with hx | hx
    · omega
    · exact hx.2 q
  · have hsm : sm := by
      rcases hx with hx | hx
      · exact hx.2
      · exact absurd hx.1 ne0
    have base : ∀ (k : Int), (tb_sp I 3 4 p s ∧ k = 6 ∨ ¬ tb_sp I 3 4 p s ∧ tb_sp I 5 3 p s ∧ k = 7 ∨ ¬ tb_sp I 3 4 p s ∧ ¬ tb_sp I 5 3 p s ∧ tb_sp I 7 5 p s ∧ k = 8 ∨ ¬ tb_sp I 3 4 p s ∧ ¬ tb_sp I 5 3 p s ∧ ¬ tb_sp I 7 5 p s ∧ tb_sp I 9 4 p s ∧ k = 9 ∨ ¬ tb_sp I 3 4 p s ∧ ¬ tb_sp I 5 3 p s ∧ ¬ tb_sp I 7 5 p s ∧ ¬ tb_sp I 9 4 p s ∧ k = 3) → Q (some (.inl k)) (n, K, I, J, R) := fun k hk => post k (Or.inr (Or.inr (Or.inr ⟨by omega, ⟨hsm, by omega⟩, hk⟩)))
    refine c_spells hB h3 hps hL (fun y3 => ⟨1, rfl, s_Tokens_kindOfLetters_35 ⟨fun h => absurd h (by decide), fun _ => base 6 (Or.inl ⟨y3, rfl⟩)⟩⟩) (fun n3 => ⟨0, rfl, s_Tokens_kindOfLetters_35 ⟨fun _ => ⟨k_13 hB, ?_⟩, fun h => absurd rfl h⟩⟩)
    refine c_spells hB h5 hps hL (fun y5 => ⟨1, rfl, s_Tokens_kindOfLetters_49 ⟨fun h => absurd h (by decide), fun _ => base 7 (Or.inr (Or.inl ⟨n3, y5, rfl⟩))⟩⟩) (fun n5 => ⟨0, rfl, s_Tokens_kindOfLetters_49 ⟨fun _ => ⟨k_13 hB, ?_⟩, fun h => absurd rfl h⟩⟩)
    refine c_spells hB h7 hps hL (fun y7 => ⟨1, rfl, s_Tokens_kindOfLetters_63 ⟨fun h => absurd h (by decide), fun _ => base 8 (Or.inr (Or.inr (Or.inl ⟨n3, n5, y7, rfl⟩)))⟩⟩) (fun n7 => ⟨0, rfl, s_Tokens_kindOfLetters_63 ⟨fun _ => ⟨k_13 hB, ?_⟩, fun h => absurd rfl h⟩⟩)
    exact c_spells hB h9 hps hL (fun y9 => ⟨1, rfl, s_Tokens_kindOfLetters_77 ⟨fun h => absurd h (by decide), fun _ => s_Tokens_kindOfLetters_86 (base 9 (Or.inr (Or.inr (Or.inr (Or.inl ⟨n3, n5, n7, y9, rfl⟩)))))⟩⟩) (fun n9 => ⟨0, rfl, s_Tokens_kindOfLetters_77 ⟨fun _ => s_Tokens_kindOfLetters_86 (base 3 (Or.inr (Or.inr (Or.inr (Or.inr ⟨n3, n5, n7, n9, rfl⟩))))), fun h => absurd rfl h⟩⟩)
  · rcases hx with hx | hx
    · omega
    · exact hx.2
  · rcases hx with hx | hx
    · exact hx.2
    · exact absurd hx.1 ne0
end LEX3
