theorem am_tk_15 {I : Nat → Nat → Int} {c i : Nat} {k a num : Int} : am_tk I c k a num 15 i = if i = c then k else I 15 i := by simp [am_tk, am_u]
theorem am_tk_16 {I : Nat → Nat → Int} {c i : Nat} {k a num : Int} : am_tk I c k a num 16 i = if i = c then a else I 16 i := by simp [am_tk, am_u]
theorem am_tk_17 {I : Nat → Nat → Int} {c i : Nat} {k a num : Int} : am_tk I c k a num 17 i = if i = c then num else I 17 i := by simp [am_tk, am_u]
theorem am_tk_13 {I : Nat → Nat → Int} {c i : Nat} {k a num : Int} : am_tk I c k a num 13 i = if i = 6 then (c : Int) + 1 else I 13 i := by simp [am_tk, am_u]
theorem am_tk_row {I : Nat → Nat → Int} {c b : Nat} {k a num : Int} (h : b ≠ 13 ∧ b ≠ 15 ∧ b ≠ 16 ∧ b ≠ 17) : am_tk I c k a num b = I b := by
  unfold am_tk
  rw [am_u_row h.1, am_u_row h.2.2.2, am_u_row h.2.2.1, am_u_row h.2.1]
theorem am_u18 {J : Nat → Nat → Int} {c i : Nat} {v : Int} : am_u J 18 c v 18 i = if i = c then v else J 18 i := by simp [am_u]
theorem tk_X_congr {I I' : Nat → Nat → Int} {len p q : Nat} {k num nm : Int} (h14 : I' 14 = I 14) (h2 : I' 2 = I 2) (h4 : I' 4 = I 4) (h6 : I' 6 = I 6) (h8 : I' 8 = I 8) (h10 : I' 10 = I 10) (h : tk_X I len p q k num nm) : tk_X I' len p q k num nm := by
  have g4 : I' (3 + 1) = I (3 + 1) := h4
  have g6 : I' (5 + 1) = I (5 + 1) := h6
  have g8 : I' (7 + 1) = I (7 + 1) := h8
  have g10 : I' (9 + 1) = I (9 + 1) := h10
  unfold tk_X tb_kind tb_sp tk_sm at h ⊢
  rw [h14, h2, g4, g6, g8, g10]
  exact h
theorem am_tx_congr {K : Nat → am_K} {R : Nat → Nat → Option Nat} {I I' : Nat → Nat → Int} {a m : Nat} (h1 : I' a = I a) (h2 : I' (a + 1) = I (a + 1)) (h : am_tx K I R a m) : am_tx K I' R a m := by
  unfold am_tx at h ⊢
  rw [h1, h2]
  exact h
/-- c tokens are cut, the next one stands at p (or there is none: p is the length) -/
def tk_pre (I0 I J : Nat → Nat → Int) (len c p : Nat) : Prop := ∃ ps qs : Nat → Nat, tb_run tb_bl (I0 14) len 0 (ps 0) ∧ ps c = p ∧ ∀ k : Nat, k < c → ps k < len ∧ ps k < qs k ∧ qs k ≤ len ∧ I 16 k = (ps k : Int) ∧ tk_X I0 len (ps k) (qs k) (I 15 k) (I 17 k) (J 18 k) ∧ tb_run tb_bl (I0 14) len (qs k) (ps (k + 1))
theorem tk_pre_next {I0 I J : Nat → Nat → Int} {len c p q p' : Nat} {k num nm : Int} (h : tk_pre I0 I J len c p) (hp : p < len) (hpq : p < q) (hq : q ≤ len) (hX : tk_X I0 len p q k num nm) (hr : tb_run tb_bl (I0 14) len q p') : tk_pre I0 (am_tk I c k p num) (am_u J 18 c nm) len (c + 1) p' := by
  obtain ⟨ps, qs, h0, hc, hk⟩ := h
  refine ⟨fun i => if i ≤ c then ps i else p', fun i => if i < c then qs i else q, ?_, ?_, fun i hi => ?_⟩
  · show tb_run tb_bl (I0 14) len 0 (if 0 ≤ c then ps 0 else p')
    rw [if_pos (Nat.zero_le _)]; exact h0
  · show (if c + 1 ≤ c then ps (c + 1) else p') = p'
    rw [if_neg (by omega)]
  · rw [am_tk_15, am_tk_16, am_tk_17, am_u18]
    by_cases e : i = c
    · subst e
      simp only [if_pos (Nat.le_refl i), if_neg (Nat.lt_irrefl i), if_true, if_neg (show ¬ i + 1 ≤ i by omega), hc]
      exact ⟨hp, hpq, hq, trivial, hX, hr⟩
    · have h2 := hk i (by omega)
      simp only [if_neg e, if_pos (show i ≤ c by omega), if_pos (show i < c by omega), if_pos (show i + 1 ≤ c by omega)]
      exact h2
/-- what cut leaves: c tokens, and behind them the end, or one that is BAD -/
def tk_fin (I0 I J : Nat → Nat → Int) (len c : Nat) : Prop := ∃ p : Nat, tk_pre I0 I J len c p ∧ (∀ k : Nat, k < c → I 15 k ≠ 1) ∧ I 16 c = (p : Int) ∧ (p = len ∧ I 15 c = 0 ∨ p < len ∧ I 15 c = 1 ∧ ∃ q : Nat, tk_X I0 len p q 1 (I 17 c) (J 18 c)) ∧ I 13 6 = (c : Int) + 1 ∧ I 13 7 = 0 ∧ c ≤ len
theorem tk_pre_keep {I0 I J : Nat → Nat → Int} {len c p : Nat} {k a num nm : Int} (h : tk_pre I0 I J len c p) : tk_pre I0 (am_tk I c k a num) (am_u J 18 c nm) len c p := by
  obtain ⟨ps, qs, h0, hc, hk⟩ := h
  refine ⟨ps, qs, h0, hc, fun i hi => ?_⟩
  rw [am_tk_15, am_tk_16, am_tk_17, am_u18, if_neg (by omega), if_neg (by omega), if_neg (by omega), if_neg (by omega)]
  exact hk i hi
section CUT
variable {d n : Nat} {K : Nat → am_K} {I0 J0 : Nat → Nat → Int} {R : Nat → Nat → Option Nat} {Q : am_Q}
theorem c_cut_l {len : Nat} (hB : am_B K R) (h1 : am_tx K I0 R 1 10) (h3 : am_tx K I0 R 3 4) (h5 : am_tx K I0 R 5 3) (h7 : am_tx K I0 R 7 5) (h9 : am_tx K I0 R 9 4) (hL : len ≤ 1200) (hby : ∀ j : Nat, j < len → 0 ≤ I0 14 j ∧ I0 14 j ≤ 255)
    (post : ∀ (I J : Nat → Nat → Int) (c : Nat), (∀ a : Nat, a ≠ 13 → a ≠ 15 → a ≠ 16 → a ≠ 17 → I a = I0 a) → I 13 1 = (len : Int) → (∀ a : Nat, a ≠ 18 → J a = J0 a) → tk_fin I0 I J len c → Q none (n, K, I, J, R)) :
    ∀ (m p c : Nat) (I J : Nat → Nat → Int), len ≤ p + m → p ≤ len → c ≤ p → (∀ a : Nat, a ≠ 13 → a ≠ 15 → a ≠ 16 → a ≠ 17 → I a = I0 a) → I 13 1 = (len : Int) → I 13 6 = (c : Int) → I 13 7 = 0 → (∀ a : Nat, a ≠ 18 → J a = J0 a) → tk_pre I0 I J len c p → (∀ k : Nat, k < c → I 15 k ≠ 1) → am_WP (d + 9) (145, 18, [.inr (.inl 13), .inl (p : Int), .inl (c : Int)], [], (0, 0), n, K, I, J, R) Q := by
  intro m
  induction m with
  | zero =>
    intro p c I J hm hp hcp hf hl hc h7' hJ hpre hnb
    have fin : am_WP (d + 9) (145, 60, [.inr (.inl 13), .inl (p : Int), .inl (c : Int)], [], (0, 0), n, K, I, J, R) Q := by
      refine s_Tokens_cut_60 ⟨k_13 hB, fun z1 hz1 _ _ => ⟨k_13 hB, c_add hB hc (by omega) ⟨rfl, s_Tokens_cut_71 (post _ _ c (fun a a1 a2 a3 a4 => (am_tk_row ⟨a1, a2, a3, a4⟩).trans (hf a a1 a2 a3 a4)) ?_ (fun a ha => (am_u_row ha).trans (hJ a ha)) ⟨p, tk_pre_keep hpre, fun k hk => ?_, ?_, Or.inl ⟨by omega, ?_⟩, ?_, ?_, by omega⟩)⟩⟩⟩
      · rw [am_tk_13, if_neg (by decide), hl]
      · rw [am_tk_15, if_neg (by omega)]; exact hnb k hk
      · rw [am_tk_16, if_pos rfl]; omega
      · rw [am_tk_15, if_pos rfl]
      · rw [am_tk_13, if_pos rfl]
      · rw [am_tk_13, if_neg (by decide)]; exact h7'
    exact s_Tokens_cut_18 ⟨fun _ => fin, fun _ => ⟨k_13 hB, fun z1 hz1 _ _ => ⟨fun _ => fin, fun h => absurd h (by omega)⟩⟩⟩
  | succ m ih =>
    intro p c I J hm hp hcp hf hl hc h7' hJ hpre hnb
    have fin : p = len → am_WP (d + 9) (145, 60, [.inr (.inl 13), .inl (p : Int), .inl (c : Int)], [], (0, 0), n, K, I, J, R) Q := by
      intro epl
      refine s_Tokens_cut_60 ⟨k_13 hB, fun z1 hz1 _ _ => ⟨k_13 hB, c_add hB hc (by omega) ⟨rfl, s_Tokens_cut_71 (post _ _ c (fun a a1 a2 a3 a4 => (am_tk_row ⟨a1, a2, a3, a4⟩).trans (hf a a1 a2 a3 a4)) ?_ (fun a ha => (am_u_row ha).trans (hJ a ha)) ⟨p, tk_pre_keep hpre, fun k hk => ?_, ?_, Or.inl ⟨by omega, ?_⟩, ?_, ?_, by omega⟩)⟩⟩⟩
      · rw [am_tk_13, if_neg (by decide), hl]
      · rw [am_tk_15, if_neg (by omega)]; exact hnb k hk
      · rw [am_tk_16, if_pos rfl]; omega
      · rw [am_tk_15, if_pos rfl]
      · rw [am_tk_13, if_pos rfl]
      · rw [am_tk_13, if_neg (by decide)]; exact h7'
    have r14 : I 14 = I0 14 := hf 14 (by decide) (by decide) (by decide) (by decide)
    have low : ∀ a : Nat, a < 11 → I a = I0 a := fun a ha => hf a (by omega) (by omega) (by omega) (by omega)
    refine s_Tokens_cut_18 ⟨fun h => fin (by omega), fun _ => ⟨k_13 hB, fun z1 hz1 _ _ => ⟨fun h => fin (by omega), fun hlt => ⟨k_13 hB, ?_⟩⟩⟩⟩
    refine c_cutToken (len := len) hB (am_tx_congr (low 1 (by decide)) (low 2 (by decide)) h1) (am_tx_congr (low 3 (by decide)) (low 4 (by decide)) h3) (am_tx_congr (low 5 (by decide)) (low 6 (by decide)) h5) (am_tx_congr (low 7 (by decide)) (low 8 (by decide)) h7) (am_tx_congr (low 9 (by decide)) (low 10 (by decide)) h9) hl hL (by omega) (by rw [r14]; exact hby) hc (by omega) (fun q k num nm hpq hq hX => ⟨(q : Int), rfl, s_Tokens_cut_39 ⟨k_13 hB, ?_⟩⟩)
    have hX0 : tk_X I0 len p q k num nm := tk_X_congr r14.symm (low 2 (by decide)).symm (low 4 (by decide)).symm (low 6 (by decide)).symm (low 8 (by decide)).symm (low 10 (by decide)).symm hX
    have rows : ∀ a : Nat, a ≠ 13 → a ≠ 15 → a ≠ 16 → a ≠ 17 → am_tk I c k p num a = I0 a := fun a a1 a2 a3 a4 => (am_tk_row ⟨a1, a2, a3, a4⟩).trans (hf a a1 a2 a3 a4)
    have l1 : am_tk I c k p num 13 1 = (len : Int) := by rw [am_tk_13, if_neg (by decide), hl]
    refine c_behind (len := len) hB l1 hL hq (fun p' hr => ⟨(p' : Int), rfl, s_Tokens_cut_42 ⟨k_13 hB, 15, r_13_2 hB, 1201, k_15 hB, ⟨by omega, by omega⟩, fun z2 hz2 _ _ => ?_⟩⟩)
    rw [rows 14 (by decide) (by decide) (by decide) (by decide)] at hr
    have e2 : z2 = k := by
      have : z2 = am_tk I c k p num 15 c := hz2
      rw [this, am_tk_15, if_pos rfl]
    refine ⟨fun ne => fun z4 q4 hz4 _ _ => ?_, fun e => post _ _ c rows l1 (fun a ha => (am_u_row ha).trans (hJ a ha)) ⟨p, tk_pre_keep hpre, fun i hi => ?_, ?_, Or.inr ⟨by omega, ?_, q, ?_⟩, ?_, ?_, by omega⟩⟩
    · have e4 : z4 = ((c + 1 : Nat) : Int) := by omega
      rw [e4]
      refine ih p' (c + 1) _ _ (by have := hr.1; omega) hr.2.1 (by have := hr.1; omega) rows l1 ?_ ?_ (fun a ha => (am_u_row ha).trans (hJ a ha)) (tk_pre_next hpre (by omega) hpq hq hX0 hr) (fun i hi => ?_)
      · rw [am_tk_13, if_pos rfl]; omega
      · rw [am_tk_13, if_neg (by decide)]; exact h7'
      · rw [am_tk_15]
        by_cases ei : i = c
        · rw [if_pos ei, ← e2]; exact ne
        · rw [if_neg ei]; exact hnb i (by omega)
    · rw [am_tk_15, if_neg (by omega)]; exact hnb i hi
    · rw [am_tk_16, if_pos rfl]
    · rw [am_tk_15, if_pos rfl, ← e2, e]
    · rw [am_tk_17, if_pos rfl, am_u18, if_pos rfl]
      rw [← e2, e] at hX0
      exact hX0
    · rw [am_tk_13, if_pos rfl]
    · rw [am_tk_13, if_neg (by decide)]; exact h7'
/-- cut: the tape's tokens -/
theorem c_cut {len : Nat} (hB : am_B K R) (h1 : am_tx K I0 R 1 10) (h3 : am_tx K I0 R 3 4) (h5 : am_tx K I0 R 5 3) (h7 : am_tx K I0 R 7 5) (h9 : am_tx K I0 R 9 4) (hl : I0 13 1 = (len : Int)) (hL : len ≤ 1200) (hby : ∀ j : Nat, j < len → 0 ≤ I0 14 j ∧ I0 14 j ≤ 255)
    (post : ∀ (I J : Nat → Nat → Int) (c : Nat), (∀ a : Nat, a ≠ 13 → a ≠ 15 → a ≠ 16 → a ≠ 17 → I a = I0 a) → I 13 1 = (len : Int) → (∀ a : Nat, a ≠ 18 → J a = J0 a) → tk_fin I0 I J len c → Q none (n, K, I, J, R)) : am_WP (d + 9) (am_entry 145 [.inr (.inl 13)] (n, K, I0, J0, R)) Q := by
  have rows : ∀ a : Nat, a ≠ 13 → am_u (am_u I0 13 6 0) 13 7 0 a = I0 a := fun a ha => (am_u_row ha).trans (am_u_row ha)
  have l1 : am_u (am_u I0 13 6 0) 13 7 0 13 1 = (len : Int) := by simp [am_u]; exact hl
  refine e_Tokens_cut ⟨⟨by decide, k_13 hB⟩, ⟨by decide, k_13 hB⟩, k_13 hB, c_behind (p := 0) hB l1 hL (Nat.zero_le _) (fun p hr => ⟨(p : Int), rfl, s_Tokens_cut_15 ?_⟩)⟩
  rw [rows 14 (by decide)] at hr
  exact c_cut_l hB h1 h3 h5 h7 h9 hL hby post len p 0 _ _ (by omega) hr.2.1 (Nat.zero_le _) (fun a a1 _ _ _ => rows a a1) l1 (by simp [am_u]) (by simp [am_u]) (fun _ _ => rfl) ⟨fun _ => p, fun _ => p, hr, rfl, fun k hk => absurd hk (Nat.not_lt_zero k)⟩ (fun k hk => absurd hk (Nat.not_lt_zero k))
theorem am_tx_of {xs : Nat → Int} (hB : am_B K R) (hC : ∀ a j : Nat, a < 11 → I0 a j = am_Zi xs a j) : am_tx K I0 R 1 10 ∧ am_tx K I0 R 3 4 ∧ am_tx K I0 R 5 3 ∧ am_tx K I0 R 7 5 ∧ am_tx K I0 R 9 4 := by
  have g : ∀ m : Nat, m = 10 ∨ m = 4 ∨ m = 3 ∨ m = 5 → (m : Int) ≤ 100 := by intro m h; omega
  refine ⟨⟨k_1 hB, r_1_0 hB, k_2 hB, by decide, (hC 1 1 (by decide)).trans rfl, by decide, fun j hj => ?_⟩, ⟨k_3 hB, r_3_0 hB, k_4 hB, by decide, (hC 3 1 (by decide)).trans rfl, by decide, fun j hj => ?_⟩, ⟨k_5 hB, r_5_0 hB, k_6 hB, by decide, (hC 5 1 (by decide)).trans rfl, by decide, fun j hj => ?_⟩, ⟨k_7 hB, r_7_0 hB, k_8 hB, by decide, (hC 7 1 (by decide)).trans rfl, by decide, fun j hj => ?_⟩, ⟨k_9 hB, r_9_0 hB, k_10 hB, by decide, (hC 9 1 (by decide)).trans rfl, by decide, fun j hj => ?_⟩⟩
  · rw [hC (1 + 1) j (by decide)]
    have : ∀ j : Nat, j < 10 → 0 ≤ ((sv_byt.getD 0 []).getD j 0).toInt ∧ ((sv_byt.getD 0 []).getD j 0).toInt ≤ 127 := by decide
    exact this j hj
  · rw [hC (3 + 1) j (by decide)]
    have : ∀ j : Nat, j < 4 → 0 ≤ ((sv_byt.getD 1 []).getD j 0).toInt ∧ ((sv_byt.getD 1 []).getD j 0).toInt ≤ 127 := by decide
    exact this j hj
  · rw [hC (5 + 1) j (by decide)]
    have : ∀ j : Nat, j < 3 → 0 ≤ ((sv_byt.getD 2 []).getD j 0).toInt ∧ ((sv_byt.getD 2 []).getD j 0).toInt ≤ 127 := by decide
    exact this j hj
  · rw [hC (7 + 1) j (by decide)]
    have : ∀ j : Nat, j < 5 → 0 ≤ ((sv_byt.getD 3 []).getD j 0).toInt ∧ ((sv_byt.getD 3 []).getD j 0).toInt ≤ 127 := by decide
    exact this j hj
  · rw [hC (9 + 1) j (by decide)]
    have : ∀ j : Nat, j < 4 → 0 ≤ ((sv_byt.getD 4 []).getD j 0).toInt ∧ ((sv_byt.getD 4 []).getD j 0).toInt ≤ 127 := by decide
    exact this j hj
end CUT
