def tk_M (b : Nat → Int) (len p q : Nat) (s w : Int) : Prop :=
  tb_let (b p) ∧ tb_run tb_let b len p q ∧ (q - p = 1 ∧ tb_great (b p) ∧ s = 2 ∧ w = b p - 65 ∨ q - p = 1 ∧ ¬ tb_great (b p) ∧ s = 4 ∧ w = b p ∨ q - p ≠ 1 ∧ ((∀ j : Nat, p ≤ j → j < q → tb_small (b j)) ∧ q - p ≤ 8) ∧ s = 3 ∧ w = tb_wv b p (q - p) ∨ q - p ≠ 1 ∧ ¬ ((∀ j : Nat, p ≤ j → j < q → tb_small (b j)) ∧ q - p ≤ 8) ∧ s = 1) ∨
  tb_dig (b p) ∧ tb_run tb_dig b len p q ∧ ((q - p = 1 ∨ q - p ≤ 3 ∧ b p ≠ 48) ∧ s = 5 ∧ w = tb_dv b p (q - p) ∨ ¬ (q - p = 1 ∨ q - p ≤ 3 ∧ b p ≠ 48) ∧ s = 1) ∨
  ¬ tb_let (b p) ∧ ¬ tb_dig (b p) ∧ q = p + 1 ∧ (tb_sg (b p) ∧ s = 6 ∧ w = b p ∨ ¬ tb_sg (b p) ∧ s = 1)
section SCAN2
variable {d n : Nat} {K : Nat → am_K} {I J : Nat → Nat → Int} {R : Nat → Nat → Option Nat} {Q : am_Q}
theorem m_word_l {b : Nat → Int} {len p : Nat} {x2 : Int} (hB : am_B K R) (hl : I 101 1 = (len : Int)) (hL : len ≤ 1200) (hb : ∀ j : Nat, j < len → I 102 j % 256 = b j)
    (post : ∀ (q : Nat) (v sm : Int), tb_run tb_let b len p q → (q - p ≤ 8 → v = tb_wv b p (q - p)) → (sm = 1 ∧ (∀ j : Nat, p ≤ j → j < q → tb_small (b j)) ∨ sm = 0 ∧ ¬ ∀ j : Nat, p ≤ j → j < q → tb_small (b j)) → am_WP (d + 1) (23, 27, [.inr (.inl 101), .inl (p : Int), .inl x2, .inl (q : Int), .inr (.inr (some v)), am_o, .inl sm, am_o], [.inl 0], (0, 0), n, K, I, J, R) Q) : ∀ (m q : Nat) (v sm : Int), len ≤ q + m → p ≤ q → q ≤ len → (∀ j : Nat, p ≤ j → j < q → tb_let (b j)) → (q - p ≤ 8 → v = tb_wv b p (q - p)) → (sm = 1 ∧ (∀ j : Nat, p ≤ j → j < q → tb_small (b j)) ∨ sm = 0 ∧ ¬ ∀ j : Nat, p ≤ j → j < q → tb_small (b j)) → am_WP (d + 1) (23, 8, [.inr (.inl 101), .inl (p : Int), .inl x2, .inl (q : Int), .inr (.inr (some v)), am_o, .inl sm, am_o], [], (0, 0), n, K, I, J, R) Q := by
  intro m
  induction m with
  | zero =>
    intro q v sm h1 h2 h3 h4 h5 h6
    refine s_M_scanWord_8 ⟨(am_kk hB rfl), m_byteAt hB hl hL hb (fun h => absurd h (by omega)) (fun hge => ⟨_, rfl, s_M_scanWord_13 (m_isSmall (fun h => absurd h (by unfold tb_small; omega)) (fun _ => ⟨_, rfl, s_M_scanWord_16 ⟨fun h => absurd rfl h, fun _ => ⟨(am_kk hB rfl), m_byteAt hB hl hL hb (fun h => absurd h (by omega)) (fun _ => ⟨_, rfl, s_M_scanWord_24 (m_isGreat (fun h => absurd h (by unfold tb_great; omega)) (fun _ => ⟨_, rfl, ?_⟩))⟩)⟩⟩⟩))⟩)⟩
    exact post q v sm (tb_run_stop h2 h3 h4 (fun h => by omega)) h5 h6
  | succ m ih =>
    intro q v sm h1 h2 h3 h4 h5 h6
    by_cases hq : q < len
    · have step : tb_let (b q) → am_WP (d + 1) (23, 30, [.inr (.inl 101), .inl (p : Int), .inl x2, .inl (q : Int), .inr (.inr (some v)), am_o, .inl sm, am_o], [], (0, 0), n, K, I, J, R) Q := by
        intro hy
        have go : ∀ y : Int, (y = 1 ∧ (∀ j : Nat, p ≤ j → j < q + 1 → tb_small (b j)) ∨ y = 0 ∧ ¬ ∀ j : Nat, p ≤ j → j < q + 1 → tb_small (b j)) → am_WP (d + 1) (23, 51, [.inr (.inl 101), .inl (p : Int), .inl x2, .inl (q : Int), .inr (.inr (some v)), am_o, .inl sm, am_o], [.inl y], (0, 0), n, K, I, J, R) Q := by
          intro y hy3
          refine s_M_scanWord_51 (am_ar_i (by omega) (by omega) ⟨fun h8 => s_M_scanWord_78 (am_ar_i (by omega) (by omega) ?_), fun h8 => fun z2 hz2 _ _ => ⟨(am_kk hB rfl), m_byteAt hB hl hL hb (fun _ => ⟨_, rfl, s_M_scanWord_71 (fun z4 hz4 _ _ => s_M_scanWord_78 (am_ar_i (by omega) (by omega) ?_))⟩) (fun h => absurd h (by omega))⟩⟩)
          · exact ih (q + 1) v y (by omega) (by omega) (by omega) (tb_all_next h4 hy) (fun hk => by omega) hy3
          · refine ih (q + 1) z4 y (by omega) (by omega) (by omega) (tb_all_next h4 hy) (fun hk => ?_) hy3
            have hn := h5 (by omega)
            have hr := tb_wv7 (b := b) (p := p) (k := q - p) (by omega) (fun j a c => h4 j a (by omega))
            have hyb : 0 ≤ b q ∧ b q < 256 := by unfold tb_let tb_small tb_great at hy; omega
            rw [hz4, hz2, hn, am_lsh8 hr.1 hr.2, am_lorb hr.1 hr.2 hyb, show q + 1 - p = (q - p) + 1 by omega]
            show _ = tb_wv b p (q - p) * 256 + b (p + (q - p))
            rw [show p + (q - p) = q by omega]
        have no : ¬ tb_small (b q) → ¬ ∀ j : Nat, p ≤ j → j < q + 1 → tb_small (b j) := fun g k => g (k q h2 (by omega))
        refine s_M_scanWord_30 ⟨fun e5 => s_M_scanWord_50 (go 0 (Or.inr ⟨rfl, ?_⟩)), fun ne5 => ⟨(am_kk hB rfl), m_byteAt hB hl hL hb (fun _ => ⟨_, rfl, s_M_scanWord_40 (m_isSmall (fun hs => ⟨_, rfl, s_M_scanWord_43 ⟨fun h => absurd h (by decide), fun _ => go 1 (Or.inl ⟨rfl, ?_⟩)⟩⟩) (fun hs => ⟨_, rfl, s_M_scanWord_43 ⟨fun _ => s_M_scanWord_50 (go 0 (Or.inr ⟨rfl, no hs⟩)), fun h => absurd rfl h⟩⟩))⟩) (fun h => absurd h (by omega))⟩⟩
        · rcases h6 with h6 | h6
          · omega
          · exact fun k => h6.2 (fun j a c => k j a (by omega))
        · rcases h6 with h6 | h6
          · exact tb_all_next h6.2 hs
          · exact absurd h6.1 ne5
      refine s_M_scanWord_8 ⟨(am_kk hB rfl), m_byteAt hB hl hL hb (fun _ => ⟨_, rfl, s_M_scanWord_13 (m_isSmall (fun hs => ⟨_, rfl, s_M_scanWord_16 ⟨fun _ => step (Or.inl hs), fun h => absurd h (by decide)⟩⟩) (fun hs => ⟨_, rfl, s_M_scanWord_16 ⟨fun h => absurd rfl h, fun _ => ⟨(am_kk hB rfl), m_byteAt hB hl hL hb (fun _ => ⟨_, rfl, s_M_scanWord_24 (m_isGreat (fun hg => ⟨_, rfl, s_M_scanWord_27 ⟨fun h => absurd h (by decide), fun _ => step (Or.inr hg)⟩⟩) (fun hg => ⟨_, rfl, ?_⟩))⟩) (fun h => absurd h (by omega))⟩⟩⟩))⟩) (fun h => absurd h (by omega))⟩
      exact post q v sm (tb_run_stop h2 h3 h4 (fun _ k => k.elim hs hg)) h5 h6
    · refine s_M_scanWord_8 ⟨(am_kk hB rfl), m_byteAt hB hl hL hb (fun h => absurd h (by omega)) (fun hge => ⟨_, rfl, s_M_scanWord_13 (m_isSmall (fun h => absurd h (by unfold tb_small; omega)) (fun _ => ⟨_, rfl, s_M_scanWord_16 ⟨fun h => absurd rfl h, fun _ => ⟨(am_kk hB rfl), m_byteAt hB hl hL hb (fun h => absurd h (by omega)) (fun _ => ⟨_, rfl, s_M_scanWord_24 (m_isGreat (fun h => absurd h (by unfold tb_great; omega)) (fun _ => ⟨_, rfl, ?_⟩))⟩)⟩⟩⟩))⟩)⟩
      exact post q v sm (tb_run_stop h2 h3 h4 (fun h => by omega)) h5 h6
theorem m_scanWord {b : Nat → Int} {len p t : Nat} (hB : am_B K R) (hl : I 101 1 = (len : Int)) (hL : len ≤ 1200) (hb : ∀ j : Nat, j < len → I 102 j % 256 = b j) (ht : I 101 3 = (t : Int)) (ht2 : t < 1201) (hp : p < len) (hlet : tb_let (b p)) (post : ∀ (q : Nat) (s w : Int), p < q → q ≤ len → tk_M b len p q s w → Q (some (.inl (q : Int))) (n, K, am_u I 103 t s, am_u J 105 t w, R)) : am_WP (d + 1) (am_entry 23 [.inr (.inl 101), .inl (p : Int), .inl (b p)] (n, K, I, J, R)) Q := by
  refine e_M_scanWord (m_word_l hB hl hL hb ?_ len p 0 1 (by omega) (Nat.le_refl _) (by omega) (fun j a c => by omega) (fun _ => by rw [Nat.sub_self]; rfl) (Or.inl ⟨rfl, fun j a c => by omega⟩))
  intro q v sm hr hv hsm
  have hpq : p < q := by
    rcases Nat.lt_or_ge p q with h | h
    · exact h
    · have e : q = p := by have := hr.1; omega
      rw [e] at hr
      exact absurd hlet (hr.2.2.2 hp)
  have hq := hr.2.1
  have fin : ∀ (s w z1 : Int), tk_M b len p q s w → am_WP (d + 1) (23, 173, [.inr (.inl 101), .inl (p : Int), .inl (b p), .inl (q : Int), .inr (.inr (some v)), am_o, .inl sm, .inl z1], [.inr (.inr (some w)), .inl (t : Int), .inr (.inl 105)], (0, 0), n, K, am_u I 103 t s, J, R) Q := by
    intro s w z1 hM
    exact s_M_scanWord_173 ⟨_, by decide, (am_kk hB rfl), ⟨by omega, by omega⟩, post q s w hpq hq hM⟩
  have ew : q - p ≠ 1 → ∀ (s z1 : Int), z1 ≠ 1 → tk_M b len p q s v → am_WP (d + 1) (23, 137, [.inr (.inl 101), .inl (p : Int), .inl (b p), .inl (q : Int), .inr (.inr (some v)), am_o, .inl sm, .inl z1], [.inl s, .inl (t : Int), .inr (.inl 103)], (0, 0), n, K, I, J, R) Q := by
    intro hne s z1 hz hM
    refine s_M_scanWord_137 ⟨_, by decide, (am_kk hB rfl), ⟨by omega, by omega⟩, (am_kk hB rfl), _, (am_rf hB rfl), (am_kk hB rfl), am_nm_ne (by decide) (am_nm_k ht ?_)⟩
    rintro _ rfl _ _
    exact ⟨fun _ => fin s v z1 hM, fun h => absurd h hz⟩
  have e1 : q - p = 1 → ∀ (s w z1 : Int), z1 = 1 → (tb_great (b p) ∧ w = b p - 65 ∨ ¬ tb_great (b p) ∧ w = b p) → tk_M b len p q s w → am_WP (d + 1) (23, 137, [.inr (.inl 101), .inl (p : Int), .inl (b p), .inl (q : Int), .inr (.inr (some v)), am_o, .inl sm, .inl z1], [.inl s, .inl (t : Int), .inr (.inl 103)], (0, 0), n, K, I, J, R) Q := by
    intro hne s w z1 hz hw hM
    refine s_M_scanWord_137 ⟨_, by decide, (am_kk hB rfl), ⟨by omega, by omega⟩, (am_kk hB rfl), _, (am_rf hB rfl), (am_kk hB rfl), am_nm_ne (by decide) (am_nm_k ht ?_)⟩
    rintro _ rfl _ _
    refine ⟨fun h => absurd hz h, fun _ => m_isGreat (fun hg => ⟨_, rfl, s_M_scanWord_156 ⟨fun h => absurd h (by decide), fun _ => am_ar_i ?_ ?_ (s_M_scanWord_167 ?_)⟩⟩) (fun hg => ⟨_, rfl, s_M_scanWord_156 ⟨fun _ => s_M_scanWord_167 ?_, fun h => absurd rfl h⟩⟩)⟩
    · unfold tb_great at hg; omega
    · unfold tb_great at hg; omega
    · rcases hw with hw | hw
      · rw [← hw.2]; exact fin s w z1 hM
      · exact absurd hg hw.1
    · rcases hw with hw | hw
      · exact absurd hw.1 hg
      · have := fin s w z1 hM
        rw [hw.2] at this
        exact this
  refine s_M_scanWord_27 ⟨fun _ => am_ar_i (by omega) (by omega) ⟨(am_kk hB rfl), _, (am_rf hB rfl), (am_kk hB rfl), am_nm_k ht ?_⟩, fun h => absurd rfl h⟩
  rintro _ rfl _ _
  refine ⟨fun hne => ⟨fun h0 => s_M_scanWord_136 (ew (by omega) 1 _ hne (Or.inl ⟨hlet, hr, Or.inr (Or.inr (Or.inr ⟨by omega, ?_, rfl⟩))⟩)), fun h0 => ⟨fun h8 => s_M_scanWord_136 (ew (by omega) 1 _ hne (Or.inl ⟨hlet, hr, Or.inr (Or.inr (Or.inr ⟨by omega, fun k => by omega, rfl⟩))⟩)), fun h8 => ew (by omega) 3 _ hne (Or.inl ⟨hlet, hr, Or.inr (Or.inr (Or.inl ⟨by omega, ⟨?_, by omega⟩, rfl, hv (by omega)⟩))⟩)⟩⟩, fun he => m_isGreat (fun hg => ⟨_, rfl, s_M_scanWord_109 ⟨fun h => absurd h (by decide), fun _ => e1 (by omega) 2 (b p - 65) _ he (Or.inl ⟨hg, rfl⟩) (Or.inl ⟨hlet, hr, Or.inl ⟨by omega, hg, rfl, rfl⟩⟩)⟩⟩) (fun hg => ⟨_, rfl, s_M_scanWord_109 ⟨fun _ => e1 (by omega) 4 (b p) _ he (Or.inr ⟨hg, rfl⟩) (Or.inl ⟨hlet, hr, Or.inr (Or.inl ⟨by omega, hg, rfl, rfl⟩)⟩), fun h => absurd rfl h⟩⟩)⟩
  · rcases hsm with g | g
    · omega
    · exact fun k => g.2 k.1
  · rcases hsm with g | g
    · exact g.2
    · omega
end SCAN2
