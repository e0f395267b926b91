/-! THE REFERENCE'S SCAN -/
def tb_wv (b : Nat → Int) (p : Nat) : Nat → Int
  | 0 => 0
  | k + 1 => tb_wv b p k * 256 + b (p + k)
def tb_sg (x : Int) : Prop := x = 61 ∨ x = 124 ∨ x = 59 ∨ x = 40 ∨ x = 41 ∨ x = 95 ∨ x = 126 ∨ x = 33 ∨ x = 64 ∨ x = 63
theorem tb_wv_rg {b : Nat → Int} {p : Nat} : ∀ (k : Nat), (∀ j : Nat, p ≤ j → j < p + k → 0 ≤ b j ∧ b j ≤ 255) → 0 ≤ tb_wv b p k ∧ tb_wv b p k < 256 ^ k := by
  intro k
  induction k with
  | zero => intro _; exact ⟨Int.le_refl 0, show (0 : Int) < 256 ^ 0 from by decide⟩
  | succ k ih =>
    intro h
    have h1 := ih (fun j a c => h j a (by omega))
    have h2 := h (p + k) (by omega) (by omega)
    rw [Int.pow_succ]
    unfold tb_wv
    omega
theorem tb_wp7 {k : Nat} (h : k < 8) : (256 : Int) ^ k ≤ 72057594037927936 := by
  have : k = 0 ∨ k = 1 ∨ k = 2 ∨ k = 3 ∨ k = 4 ∨ k = 5 ∨ k = 6 ∨ k = 7 := by omega
  rcases this with e | e | e | e | e | e | e | e <;> rw [e] <;> decide
theorem tb_wv7 {b : Nat → Int} {p k : Nat} (hk : k < 8) (h : ∀ j : Nat, p ≤ j → j < p + k → tb_let (b j)) : 0 ≤ tb_wv b p k ∧ tb_wv b p k < 36028797018963968 := by
  have hs : ∀ j : Nat, p ≤ j → j < p + k → 0 ≤ b j ∧ b j ≤ 255 := by
    intro j a c
    have := h j a c
    unfold tb_let tb_small tb_great at this
    omega
  have h1 := tb_wv_rg k hs
  refine ⟨h1.1, ?_⟩
  match k, hk, h with
  | 0, _, _ => show (0 : Int) < _; decide
  | k + 1, hk, h =>
    have h3 : 0 ≤ tb_wv b p k ∧ tb_wv b p k < 256 ^ k := tb_wv_rg k (fun j a c => hs j a (by omega))
    have h4 := h p (by omega) (by omega)
    have key : ∀ i : Nat, i ≤ k → tb_wv b p (i + 1) < 123 * 256 ^ i := by
      intro i
      induction i with
      | zero =>
        intro _
        show 0 * 256 + b (p + 0) < 123 * 256 ^ 0
        unfold tb_let tb_small tb_great at h4
        rw [Nat.add_zero, Int.pow_zero]
        omega
      | succ i ih =>
        intro hi
        have h5 := ih (by omega)
        have h6 := hs (p + (i + 1)) (by omega) (by omega)
        show tb_wv b p (i + 1) * 256 + b (p + (i + 1)) < 123 * 256 ^ (i + 1)
        rw [Int.pow_succ]
        omega
    have h7 := key k (Nat.le_refl _)
    have h8 : (256 : Int) ^ k ≤ 281474976710656 := by
      have : k = 0 ∨ k = 1 ∨ k = 2 ∨ k = 3 ∨ k = 4 ∨ k = 5 ∨ k = 6 := by omega
      rcases this with e | e | e | e | e | e | e <;> rw [e] <;> decide
    omega
section SCAN
variable {d n : Nat} {K : Nat → am_K} {I J : Nat → Nat → Int} {R : Nat → Nat → Option Nat} {Q : am_Q}
theorem m_isSmall {x : Int} (h1 : tb_small x → Q (some (.inl 1)) (n, K, I, J, R)) (h0 : ¬ tb_small x → Q (some (.inl 0)) (n, K, I, J, R)) : am_WP d (am_entry 17 [.inl x] (n, K, I, J, R)) Q := by
  refine e_M_isSmall ⟨fun a => s_M_isSmall_17 ⟨Or.inl rfl, h0 ?_⟩, fun a => ⟨fun c => s_M_isSmall_17 ⟨Or.inl rfl, h0 ?_⟩, fun c => s_M_isSmall_17 ⟨Or.inr rfl, h1 ⟨a, c⟩⟩⟩⟩ <;> unfold tb_small <;> omega
theorem m_isGreat {x : Int} (h1 : tb_great x → Q (some (.inl 1)) (n, K, I, J, R)) (h0 : ¬ tb_great x → Q (some (.inl 0)) (n, K, I, J, R)) : am_WP d (am_entry 18 [.inl x] (n, K, I, J, R)) Q := by
  refine e_M_isGreat ⟨fun a => s_M_isGreat_17 ⟨Or.inl rfl, h0 ?_⟩, fun a => ⟨fun c => s_M_isGreat_17 ⟨Or.inl rfl, h0 ?_⟩, fun c => s_M_isGreat_17 ⟨Or.inr rfl, h1 ⟨a, c⟩⟩⟩⟩ <;> unfold tb_great <;> omega
theorem m_isFigure {x : Int} (h1 : tb_dig x → Q (some (.inl 1)) (n, K, I, J, R)) (h0 : ¬ tb_dig x → Q (some (.inl 0)) (n, K, I, J, R)) : am_WP d (am_entry 19 [.inl x] (n, K, I, J, R)) Q := by
  refine e_M_isFigure ⟨fun a => s_M_isFigure_17 ⟨Or.inl rfl, h0 ?_⟩, fun a => ⟨fun c => s_M_isFigure_17 ⟨Or.inl rfl, h0 ?_⟩, fun c => s_M_isFigure_17 ⟨Or.inr rfl, h1 ⟨a, c⟩⟩⟩⟩ <;> unfold tb_dig <;> omega
theorem m_isSignByte {x : Int} (h1 : tb_sg x → Q (some (.inl 1)) (n, K, I, J, R)) (h0 : ¬ tb_sg x → Q (some (.inl 0)) (n, K, I, J, R)) : am_WP d (am_entry 21 [.inl x] (n, K, I, J, R)) Q := by
  have y : tb_sg x → am_WP d (21, 65, [.inl x], [.inl 1], (0, 0), n, K, I, J, R) Q := fun h => s_M_isSignByte_65 ⟨Or.inr rfl, h1 h⟩
  refine e_M_isSignByte ⟨fun a => y (by unfold tb_sg; omega), fun a1 => ⟨fun a => y (by unfold tb_sg; omega), fun a2 => ⟨fun a => y (by unfold tb_sg; omega), fun a3 => ⟨fun a => y (by unfold tb_sg; omega), fun a4 => ⟨fun a => y (by unfold tb_sg; omega), fun a5 => ⟨fun a => y (by unfold tb_sg; omega), fun a6 => ⟨fun a => y (by unfold tb_sg; omega), fun a7 => ⟨fun a => y (by unfold tb_sg; omega), fun a8 => ⟨fun a => y (by unfold tb_sg; omega), fun a9 => ⟨fun a => s_M_isSignByte_65 ⟨Or.inl rfl, h0 (by unfold tb_sg; omega)⟩, fun a => y (by unfold tb_sg; omega)⟩⟩⟩⟩⟩⟩⟩⟩⟩⟩
theorem m_byteAt {b : Nat → Int} {len p : Nat} (hB : am_B K R) (hl : I 101 1 = (len : Int)) (hL : len ≤ 1200) (hb : ∀ j : Nat, j < len → I 102 j % 256 = b j) (h1 : p < len → Q (some (.inl (b p))) (n, K, I, J, R)) (h0 : len ≤ p → Q (some (.inl (-1))) (n, K, I, J, R)) : am_WP d (am_entry 20 [.inr (.inl 101), .inl (p : Int)] (n, K, I, J, R)) Q := by
  refine e_M_byteAt ⟨(am_kk hB rfl), fun z1 hz1 _ _ => ⟨fun hc => s_M_byteAt_22 (h0 (by omega)), fun hc => ⟨(am_kk hB rfl), _, (am_rf hB rfl), _, Or.inr (am_kk hB rfl), ⟨by omega, by omega⟩, fun z3 hz3 g1 g2 z5 hz5 _ _ => s_M_byteAt_22 ?_⟩⟩⟩
  have e3 : z3 = I 102 p := hz3
  have e5 : z5 = b p := by rw [hz5, am_and255_mod ⟨by omega, by omega⟩, e3, hb p (by omega)]
  rw [e5]
  exact h1 (by omega)
end SCAN
