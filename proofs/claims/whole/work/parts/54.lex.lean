/-! LETTERS, DIGITS, BLANKS; runs of them -/
def tb_small (x : Int) : Prop := 97 ≤ x ∧ x ≤ 122
def tb_great (x : Int) : Prop := 65 ≤ x ∧ x ≤ 90
def tb_let (x : Int) : Prop := tb_small x ∨ tb_great x
def tb_dig (x : Int) : Prop := 48 ≤ x ∧ x ≤ 57
def tb_bl (x : Int) : Prop := x = 32 ∨ x = 10
def tb_run (P : Int → Prop) (b : Nat → Int) (len p q : Nat) : Prop := p ≤ q ∧ q ≤ len ∧ (∀ j : Nat, p ≤ j → j < q → P (b j)) ∧ (q < len → ¬ P (b q))
theorem tb_run_uniq {P : Int → Prop} {b : Nat → Int} {len p q q' : Nat} (h : tb_run P b len p q) (h' : tb_run P b len p q') : q = q' := by
  rcases Nat.lt_trichotomy q q' with c | c | c
  · exact absurd (h'.2.2.1 q h.1 c) (h.2.2.2 (Nat.lt_of_lt_of_le c h'.2.1))
  · exact c
  · exact absurd (h.2.2.1 q' h'.1 c) (h'.2.2.2 (Nat.lt_of_lt_of_le c h.2.1))
theorem tb_run_stop {P : Int → Prop} {b : Nat → Int} {len p q : Nat} (hp : p ≤ q) (hq : q ≤ len) (ha : ∀ j : Nat, p ≤ j → j < q → P (b j)) (h : q < len → ¬ P (b q)) : tb_run P b len p q := ⟨hp, hq, ha, h⟩
theorem tb_all_next {P : Int → Prop} {b : Nat → Int} {p q : Nat} (ha : ∀ j : Nat, p ≤ j → j < q → P (b j)) (h : P (b q)) : ∀ j : Nat, p ≤ j → j < q + 1 → P (b j) := by
  intro j h1 h2
  by_cases e : j = q
  · rw [e]; exact h
  · exact ha j h1 (by omega)
def tb_dv (b : Nat → Int) (p : Nat) : Nat → Int
  | 0 => 0
  | k + 1 => 10 * tb_dv b p k + (b (p + k) - 48)
def tb_nv (b : Nat → Int) (p : Nat) : Nat → Int
  | 0 => 0
  | k + 1 => 32 * tb_nv b p k + b (p + k) % 32
theorem tb_dv_rg {b : Nat → Int} {p : Nat} : ∀ (k : Nat), (∀ j : Nat, p ≤ j → j < p + k → tb_dig (b j)) → 0 ≤ tb_dv b p k ∧ tb_dv b p k < 10 ^ k := by
  intro k
  induction k with
  | zero => intro _; exact ⟨Int.le_refl 0, show (0 : Int) < 10 ^ 0 from by decide⟩
  | succ k ih =>
    intro h
    have h1 := ih (fun j a c => h j a (by omega))
    have h2 : tb_dig (b (p + k)) := h (p + k) (by omega) (by omega)
    unfold tb_dig at h2
    rw [Int.pow_succ]
    unfold tb_dv
    omega
theorem tb_nv_rg {b : Nat → Int} {p : Nat} : ∀ (k : Nat), 0 ≤ tb_nv b p k ∧ tb_nv b p k < 32 ^ k := by
  intro k
  induction k with
  | zero => exact ⟨Int.le_refl 0, show (0 : Int) < 32 ^ 0 from by decide⟩
  | succ k ih =>
    rw [Int.pow_succ]
    unfold tb_nv
    omega
theorem am_m5 (e : BitVec 32) : (e &&& 31#32).toInt = ((e.toNat % 32 : Nat) : Int) := by
  have h1 : (e &&& 31#32).toNat = e.toNat % 32 := by
    rw [BitVec.toNat_and]
    exact Nat.and_two_pow_sub_one_eq_mod e.toNat 5
  rw [BitVec.toInt_eq_toNat_of_lt (by rw [h1]; omega), h1]
theorem am_and31 {x : Int} : am_and x 31 = x % 32 := by
  have h : am_and x 31 = (((Int32.ofInt x).toBitVec.toNat % 32 : Nat) : Int) := am_m5 _
  rw [h, Int32.toBitVec_ofInt, BitVec.toNat_ofInt]
  omega
section LEX
variable {d n : Nat} {K : Nat → am_K} {I J : Nat → Nat → Int} {R : Nat → Nat → Option Nat} {Q : am_Q}
theorem c_isLetter {x : Int} (h1 : tb_let x → Q (some (.inl 1)) (n, K, I, J, R)) (h0 : ¬ tb_let x → Q (some (.inl 0)) (n, K, I, J, R)) : am_WP d (am_entry 153 [.inl x] (n, K, I, J, R)) Q := by
  have g : ¬ tb_small x → am_WP d (153, 12, [.inl x], [], (0, 0), n, K, I, J, R) Q := by
    intro hs
    refine s_Tokens_isLetter_12 ⟨fun a => s_Tokens_isLetter_29 ⟨Or.inl rfl, h0 ?_⟩, fun a => ⟨fun c => s_Tokens_isLetter_29 ⟨Or.inl rfl, h0 ?_⟩, fun c => s_Tokens_isLetter_29 ⟨Or.inr rfl, h1 (Or.inr ⟨a, c⟩)⟩⟩⟩
    · rintro (q | q)
      · exact hs q
      · unfold tb_great at q; omega
    · rintro (q | q)
      · exact hs q
      · unfold tb_great at q; omega
  refine e_Tokens_isLetter ⟨fun a => g ?_, fun a => ⟨fun c => s_Tokens_isLetter_29 ⟨Or.inr rfl, h1 (Or.inl ⟨a, c⟩)⟩, fun c => g ?_⟩⟩
  · unfold tb_small; omega
  · unfold tb_small; omega
theorem c_isDigit {x : Int} (h1 : tb_dig x → Q (some (.inl 1)) (n, K, I, J, R)) (h0 : ¬ tb_dig x → Q (some (.inl 0)) (n, K, I, J, R)) : am_WP d (am_entry 154 [.inl x] (n, K, I, J, R)) Q := by
  refine e_Tokens_isDigit ⟨fun a => s_Tokens_isDigit_17 ⟨Or.inl rfl, h0 ?_⟩, fun a => ⟨fun c => s_Tokens_isDigit_17 ⟨Or.inl rfl, h0 ?_⟩, fun c => s_Tokens_isDigit_17 ⟨Or.inr rfl, h1 ⟨a, c⟩⟩⟩⟩
  · unfold tb_dig; omega
  · unfold tb_dig; omega
theorem c_behind_l {len p : Nat} (hB : am_B K R) (hl : I 13 1 = (len : Int)) (hL : len ≤ 1200) (post : ∀ q : Nat, tb_run tb_bl (I 14) len p q → Q (some (.inl (q : Int))) (n, K, I, J, R)) : ∀ (m q : Nat), len ≤ q + m → p ≤ q → q ≤ len → (∀ j : Nat, p ≤ j → j < q → tb_bl (I 14 j)) → am_WP d (146, 2, [.inr (.inl 13), .inl (p : Int), .inl (q : Int)], [], (0, 0), n, K, I, J, R) Q := by
  intro m
  induction m with
  | zero =>
    intro q h1 h2 h3 h4
    refine s_Tokens_behindBlanks_2 ⟨k_13 hB, fun z1 hz1 _ _ => ⟨fun _ => post q (tb_run_stop h2 h3 h4 (fun h => by omega)), fun h => absurd h (by omega)⟩⟩
  | succ m ih =>
    intro q h1 h2 h3 h4
    refine s_Tokens_behindBlanks_2 ⟨k_13 hB, fun z1 hz1 _ _ => ⟨fun _ => post q (tb_run_stop h2 h3 h4 (fun h => by omega)), fun hlt => ⟨k_13 hB, 14, r_13_0 hB, 1200, k_14 hB, ⟨by omega, by omega⟩, fun z3 hz3 _ _ => ⟨fun e => fun z5 q5 hz5 _ _ => ?_, fun ne => ⟨k_13 hB, 14, r_13_0 hB, 1200, k_14 hB, ⟨by omega, by omega⟩, fun z7 hz7 _ _ => ⟨fun ne2 => ?_, fun e2 => fun z9 q9 hz9 _ _ => ?_⟩⟩⟩⟩⟩⟩
    · have e5 : z5 = ((q + 1 : Nat) : Int) := by omega
      rw [e5]
      refine ih (q + 1) (by omega) (by omega) (by omega) (tb_all_next h4 (Or.inl ?_))
      rw [← e, hz3]; rfl
    · refine post q (tb_run_stop h2 h3 h4 (fun _ => ?_))
      have e7 : z7 = I 14 q := hz7
      have e3 : z3 = I 14 q := hz3
      unfold tb_bl
      omega
    · have e5 : z9 = ((q + 1 : Nat) : Int) := by omega
      rw [e5]
      refine ih (q + 1) (by omega) (by omega) (by omega) (tb_all_next h4 (Or.inr ?_))
      rw [← e2, hz7]; rfl
theorem c_behind {len p : Nat} (hB : am_B K R) (hl : I 13 1 = (len : Int)) (hL : len ≤ 1200) (hp : p ≤ len) (post : ∀ q : Nat, tb_run tb_bl (I 14) len p q → Q (some (.inl (q : Int))) (n, K, I, J, R)) : am_WP d (am_entry 146 [.inr (.inl 13), .inl (p : Int)] (n, K, I, J, R)) Q :=
  e_Tokens_behindBlanks (c_behind_l hB hl hL post len p (by omega) (Nat.le_refl _) hp (fun j a c => by omega))
/-- a token is written behind the others -/
def am_tk (I : Nat → Nat → Int) (c : Nat) (k a num : Int) : Nat → Nat → Int := am_u (am_u (am_u (am_u I 15 c k) 16 c a) 17 c num) 13 6 ((c : Int) + 1)
theorem c_add {c : Nat} {k a num nm : Int} (hB : am_B K R) (hc : I 13 6 = (c : Int)) (hc2 : c < 1201) (post : Q none (n, K, am_tk I c k a num, am_u J 18 c nm, R)) : am_WP d (am_entry 152 [.inr (.inl 13), .inl k, .inl a, .inl num, .inr (.inr (some nm))] (n, K, I, J, R)) Q := by
  refine e_Tokens_add ⟨k_13 hB, fun z1 hz1 _ _ => ⟨k_13 hB, 15, r_13_2 hB, 0, 1201, k_15 hB, Or.inr ⟨by decide, Or.inl (by decide)⟩, by decide, fun h => absurd h (by omega), fun _ => ⟨k_13 hB, 15, r_13_2 hB, k_13 hB, fun z6 hz6 _ _ => ⟨1201, by decide, k_15 hB, ⟨by omega, by omega⟩, k_13 hB, 16, r_13_3 hB, k_13 hB, fun z9 hz9 _ _ => ?_⟩⟩⟩⟩
  have e6 : z6 = (c : Int) := by omega
  have e9 : z9 = (c : Int) := by rw [hz9, am_u_ne (by decide), hc]
  refine ⟨1201, by decide, k_16 hB, ⟨by omega, by omega⟩, k_13 hB, 17, r_13_4 hB, k_13 hB, fun z12 hz12 _ _ => ?_⟩
  have e12 : z12 = (c : Int) := by rw [hz12, am_u_ne (by decide), am_u_ne (by decide), hc]
  refine ⟨1201, by decide, k_17 hB, ⟨by omega, by omega⟩, k_13 hB, 18, r_13_5 hB, k_13 hB, fun z15 hz15 _ _ => ?_⟩
  have e15 : z15 = (c : Int) := by rw [hz15, am_u_ne (by decide), am_u_ne (by decide), am_u_ne (by decide), hc]
  refine ⟨1201, by decide, k_18 hB, ⟨by omega, by omega⟩, k_13 hB, fun z17 hz17 _ _ z18 q18 hz18 _ _ => ⟨⟨by decide, k_13 hB⟩, ?_⟩⟩
  have e17 : z17 = (c : Int) := by rw [hz17, am_u_ne (by decide), am_u_ne (by decide), am_u_ne (by decide), hc]
  have e18 : z18 = (c : Int) + 1 := by omega
  rw [e6, e9, e12, e15, e18]
  exact post
end LEX
