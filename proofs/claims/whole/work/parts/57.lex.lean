def tk_sm (I : Nat → Nat → Int) (p q : Nat) : Prop := ∀ j : Nat, p ≤ j → j < q → tb_small (I 14 j)
/-- a token of the class: from p to q, its kind, number, name -/
def tk_X (I : Nat → Nat → Int) (len p q : Nat) (k num nm : Int) : Prop :=
  tb_let (I 14 p) ∧ tb_run tb_let (I 14) len p q ∧ num = I 14 p - 65 ∧ (q - p ≤ 8 → nm = tb_nv (I 14) p (q - p)) ∧ tb_kind I p (q - p) (tk_sm I p q) k ∨
  tb_dig (I 14 p) ∧ tb_run tb_dig (I 14) len p q ∧ (q - p ≤ 3 → num = tb_dv (I 14) p (q - p)) ∧ nm = 0 ∧ ((q - p = 1 ∨ q - p ≤ 3 ∧ I 14 p ≠ 48) ∧ k = 5 ∨ ¬ (q - p = 1 ∨ q - p ≤ 3 ∧ I 14 p ≠ 48) ∧ k = 1) ∨
  ¬ tb_let (I 14 p) ∧ ¬ tb_dig (I 14 p) ∧ q = p + 1 ∧ num = 0 ∧ nm = 0 ∧ ((∃ j : Nat, j < 10 ∧ I 2 j = I 14 p) ∧ k = I 14 p ∨ (¬ ∃ j : Nat, j < 10 ∧ I 2 j = I 14 p) ∧ k = 1)
section LEX4
variable {d n : Nat} {K : Nat → am_K} {I J : Nat → Nat → Int} {R : Nat → Nat → Option Nat} {Q : am_Q}
theorem tb_pow7 {k : Nat} (h : k ≤ 7) : (32 : Int) ^ k ≤ 34359738368 := by
  have : k = 0 ∨ k = 1 ∨ k = 2 ∨ k = 3 ∨ k = 4 ∨ k = 5 ∨ k = 6 ∨ k = 7 := by omega
  rcases this with e | e | e | e | e | e | e | e <;> rw [e] <;> decide
theorem c_letters {len p : Nat} (hB : am_B K R) (hl : I 13 1 = (len : Int)) (hL : len ≤ 1200) (post : ∀ (q : Nat) (nm x : Int), tb_run tb_let (I 14) len p q → (q - p ≤ 8 → nm = tb_nv (I 14) p (q - p)) → (x = 1 ∧ tk_sm I p q ∨ x = 0 ∧ ¬ tk_sm I p q) → am_WP (d + 1) (148, 73, [.inr (.inl 13), .inl (p : Int), .inl (q : Int), .inr (.inr (some nm)), am_o, .inl x], [], (0, 0), n, K, I, J, R) Q) : ∀ (m q : Nat) (nm x : Int), len ≤ q + m → p ≤ q → q ≤ len → (∀ j : Nat, p ≤ j → j < q → tb_let (I 14 j)) → (q - p ≤ 8 → nm = tb_nv (I 14) p (q - p)) → (x = 1 ∧ tk_sm I p q ∨ x = 0 ∧ ¬ tk_sm I p q) → am_WP (d + 1) (148, 7, [.inr (.inl 13), .inl (p : Int), .inl (q : Int), .inr (.inr (some nm)), am_o, .inl x], [], (0, 0), n, K, I, J, R) Q := by
  intro m
  induction m with
  | zero =>
    intro q nm x h1 h2 h3 h4 h5 h6
    exact s_Tokens_cutLetters_7 ⟨k_13 hB, fun z1 hz1 _ _ => ⟨fun _ => post q nm x (tb_run_stop h2 h3 h4 (fun h => by omega)) h5 h6, fun h => absurd h (by omega)⟩⟩
  | succ m ih =>
    intro q nm x h1 h2 h3 h4 h5 h6
    refine s_Tokens_cutLetters_7 ⟨k_13 hB, fun z1 hz1 _ _ => ⟨fun _ => post q nm x (tb_run_stop h2 h3 h4 (fun h => by omega)) h5 h6, fun hlt => ⟨k_13 hB, 14, r_13_0 hB, 1200, k_14 hB, ⟨by omega, by omega⟩, fun z3 hz3 _ _ => c_isLetter (fun hy => ⟨1, rfl, ?_⟩) (fun hn => ⟨0, rfl, s_Tokens_cutLetters_24 ⟨fun _ => post q nm x (tb_run_stop h2 h3 h4 (fun _ => ?_)) h5 h6, fun h => absurd rfl h⟩⟩)⟩⟩⟩
    · have ez : z3 = I 14 q := hz3
      have hy2 : tb_let (I 14 q) := by rw [← ez]; exact hy
      have go : ∀ y : Int, (y = 1 ∧ tk_sm I p (q + 1) ∨ y = 0 ∧ ¬ tk_sm I p (q + 1)) → am_WP (d + 1) (148, 48, [.inr (.inl 13), .inl (p : Int), .inl (q : Int), .inr (.inr (some nm)), am_o, .inl x], [.inl y], (0, 0), n, K, I, J, R) Q := by
        intro y hy3
        refine s_Tokens_cutLetters_48 (fun w1 q1 hw1 _ _ => ⟨k_13 hB, 14, r_13_0 hB, 1200, k_14 hB, ⟨by omega, by omega⟩, fun w3 hw3 _ _ w5 hw5 _ _ w6 q6 hw6 _ _ w7 q7 hw7 _ _ => ?_⟩)
        have e7 : w7 = ((q + 1 : Nat) : Int) := by omega
        have e3 : w3 = I 14 q := hw3
        have e5 : w5 = I 14 q % 32 := by rw [hw5, am_and31, e3]
        rw [e7]
        refine ih (q + 1) w6 y (by omega) (by omega) (by omega) (tb_all_next h4 hy2) (fun hk => ?_) hy3
        have hn := h5 (by omega)
        have hr := tb_nv_rg (b := I 14) (p := p) (q - p)
        have hp := tb_pow7 (k := q - p) (by omega)
        rw [show q + 1 - p = (q - p) + 1 by omega]
        show w6 = 32 * tb_nv (I 14) p (q - p) + I 14 (p + (q - p)) % 32
        rw [show p + (q - p) = q by omega]
        omega
      have no : ¬ tb_small (I 14 q) → ¬ tk_sm I p (q + 1) := fun g k => g (k q h2 (by omega))
      refine s_Tokens_cutLetters_24 ⟨fun h => absurd h (by decide), fun _ => ⟨fun e5 => s_Tokens_cutLetters_47 (go 0 (Or.inr ⟨rfl, ?_⟩)), fun ne5 => ⟨k_13 hB, 14, r_13_0 hB, 1200, k_14 hB, ⟨by omega, by omega⟩, fun z2 hz2 _ _ => ⟨fun lt => s_Tokens_cutLetters_47 (go 0 (Or.inr ⟨rfl, no ?_⟩)), fun ge => go 1 (Or.inl ⟨rfl, ?_⟩)⟩⟩⟩⟩
      · rcases h6 with h6 | h6
        · omega
        · exact fun k => h6.2 (fun j a c => k j a (by omega))
      · have e2 : z2 = I 14 q := hz2
        unfold tb_small
        omega
      · have e2 : z2 = I 14 q := hz2
        rcases h6 with h6 | h6
        · refine tb_all_next h6.2 ?_
          rcases hy2 with g | g
          · exact g
          · unfold tb_great at g; omega
        · exact absurd h6.1 ne5
    · have ez : z3 = I 14 q := hz3
      rw [← ez]; exact hn
theorem c_cutLetters {len p c : Nat} (hB : am_B K R) (h3 : am_tx K I R 3 4) (h5 : am_tx K I R 5 3) (h7 : am_tx K I R 7 5) (h9 : am_tx K I R 9 4) (hl : I 13 1 = (len : Int)) (hL : len ≤ 1200) (hp : p < len) (hd : tb_let (I 14 p)) (hc : I 13 6 = (c : Int)) (hc2 : c < 1201) (post : ∀ (q : Nat) (nm k : Int), tb_run tb_let (I 14) len p q → p < q → (q - p ≤ 8 → nm = tb_nv (I 14) p (q - p)) → tb_kind I p (q - p) (tk_sm I p q) k → Q (some (.inl (q : Int))) (n, K, am_tk I c k p (I 14 p - 65), am_u J 18 c nm, R)) : am_WP (d + 7) (am_entry 148 [.inr (.inl 13), .inl (p : Int)] (n, K, I, J, R)) Q := by
  refine e_Tokens_cutLetters (c_letters hB hl hL ?_ len p 0 1 (by omega) (Nat.le_refl _) (by omega) (fun j a c => by omega) (fun _ => by rw [Nat.sub_self]; rfl) (Or.inl ⟨rfl, fun j a c => by omega⟩))
  intro q nm x hr hnm hx
  have hpq : p < q := by
    rcases Nat.lt_or_ge p q with h | h
    · exact h
    · have e : q = p := by have := hr.1; omega
      rw [e] at hr
      exact absurd hd (hr.2.2.2 hp)
  have hq := hr.2.1
  refine s_Tokens_cutLetters_73 (fun z1 q1 hz1 _ _ => ⟨k_13 hB, ?_⟩)
  have e1 : z1 = ((q - p : Nat) : Int) := by omega
  rw [e1]
  refine c_kindOfLetters (len := len) hB h3 h5 h7 h9 (by omega) hL hx (fun k hk => ⟨k, rfl, s_Tokens_cutLetters_84 ⟨k_13 hB, 14, r_13_0 hB, 1200, k_14 hB, ⟨by omega, by omega⟩, fun z2 hz2 _ _ z4 q4 hz4 _ _ => ⟨k_13 hB, ?_⟩⟩⟩)
  have e2 : z2 = I 14 p := hz2
  have e4 : z4 = I 14 p - 65 := by
    rcases hd with g | g
    · unfold tb_small at g; omega
    · unfold tb_great at g; omega
  rw [e4]
  exact c_add hB hc hc2 ⟨rfl, s_Tokens_cutLetters_98 (post q nm k hr hpq hnm hk)⟩
theorem c_cutToken {len p c : Nat} (hB : am_B K R) (h1 : am_tx K I R 1 10) (h3 : am_tx K I R 3 4) (h5 : am_tx K I R 5 3) (h7 : am_tx K I R 7 5) (h9 : am_tx K I R 9 4) (hl : I 13 1 = (len : Int)) (hL : len ≤ 1200) (hp : p < len) (hby : ∀ j : Nat, j < len → 0 ≤ I 14 j ∧ I 14 j ≤ 255) (hc : I 13 6 = (c : Int)) (hc2 : c < 1201) (post : ∀ (q : Nat) (k num nm : Int), p < q → q ≤ len → tk_X I len p q k num nm → Q (some (.inl (q : Int))) (n, K, am_tk I c k p num, am_u J 18 c nm, R)) : am_WP (d + 8) (am_entry 147 [.inr (.inl 13), .inl (p : Int)] (n, K, I, J, R)) Q := by
  refine e_Tokens_cutToken ⟨k_13 hB, 14, r_13_0 hB, 1200, k_14 hB, ⟨by omega, by omega⟩, fun z2 hz2 _ _ => ?_⟩
  have e2 : z2 = I 14 p := hz2
  subst e2
  refine c_isLetter (fun hy => ⟨1, rfl, s_Tokens_cutToken_11 ⟨fun h => absurd h (by decide), fun _ => ⟨k_13 hB, c_cutLetters hB h3 h5 h7 h9 hl hL hp hy hc hc2 (fun q nm k hr hpq hnm hk => ⟨(q : Int), rfl, s_Tokens_cutToken_19 (post q k _ nm hpq hr.2.1 (Or.inl ⟨hy, hr, rfl, hnm, hk⟩))⟩)⟩⟩⟩) (fun hn => ⟨0, rfl, s_Tokens_cutToken_11 ⟨fun _ => c_isDigit (fun hd => ⟨1, rfl, s_Tokens_cutToken_24 ⟨fun h => absurd h (by decide), fun _ => ⟨k_13 hB, c_cutDigits hB hl hL hp hd hc hc2 (fun q num k hr hpq hnum hk => ⟨(q : Int), rfl, s_Tokens_cutToken_32 (post q k num 0 hpq hr.2.1 (Or.inr (Or.inl ⟨hd, hr, hnum, rfl, hk⟩)))⟩)⟩⟩⟩) (fun hnd => ⟨0, rfl, s_Tokens_cutToken_24 ⟨fun _ => fun z1 hz1 _ _ => ⟨k_1 hB, ?_⟩, fun h => absurd rfl h⟩⟩), fun h => absurd rfl h⟩⟩)
  have hb := hby p hp
  have e1 : z1 = I 14 p := by rw [hz1, am_i2c_e ⟨by omega, by omega⟩]
  rw [e1]
  have fin : ∀ k : Int, ((∃ j : Nat, j < 10 ∧ I 2 j = I 14 p) ∧ k = I 14 p ∨ (¬ ∃ j : Nat, j < 10 ∧ I 2 j = I 14 p) ∧ k = 1) → am_WP (d + 8) (147, 49, [.inr (.inl 13), .inl (p : Int), .inl (I 14 p)], [.inl k, .inr (.inl 13)], (0, 0), n, K, I, J, R) Q := by
    intro k hk
    refine s_Tokens_cutToken_49 ⟨k_13 hB, c_add hB hc hc2 ⟨rfl, s_Tokens_cutToken_55 (fun w q hw _ _ => ?_)⟩⟩
    have ew : w = ((p + 1 : Nat) : Int) := by omega
    rw [ew]
    exact post (p + 1) k 0 0 (by omega) (by omega) (Or.inr (Or.inr ⟨hn, hnd, rfl, rfl, rfl, hk⟩))
  refine c_indexOf h1 (by decide) hb (fun z hz => ⟨z, rfl, s_Tokens_cutToken_41 ⟨fun lt => fin 1 (Or.inr ⟨?_, rfl⟩), fun ge => fin _ (Or.inl ⟨?_, rfl⟩)⟩⟩)
  · rcases hz with hz | hz
    · omega
    · exact hz.1
  · rcases hz with hz | hz
    · exact hz.1
    · omega
end LEX4
