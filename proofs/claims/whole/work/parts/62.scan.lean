def tb_bv (b : Nat → Int) (len i : Nat) : Int := if i < len then b i else -1
/-- t tokens of the reference; i: behind the last one -/
def tm_pre (b : Nat → Int) (I J : Nat → Nat → Int) (len t i : Nat) : Prop := ∃ ps es : Nat → Nat, es 0 = 0 ∧ es t = i ∧ ∀ k : Nat, k < t → tb_run tb_bl b len (es k) (ps k) ∧ ps k < len ∧ ps k < es (k + 1) ∧ es (k + 1) ≤ len ∧ I 104 k = (ps k : Int) ∧ tk_M b len (ps k) (es (k + 1)) (I 103 k) (J 105 k)
def tm_fin (b : Nat → Int) (I J : Nat → Nat → Int) (len t : Nat) : Prop := ∃ i : Nat, tm_pre b I J len t i ∧ tb_run tb_bl b len i len ∧ I 104 t = (len : Int) ∧ I 103 t = 0 ∧ t ≤ len
theorem tm_pre_next {b : Nat → Int} {I J I' J' : Nat → Nat → Int} {len t i p q : Nat} (h : tm_pre b I J len t i) (hk : ∀ k : Nat, k < t → I' 104 k = I 104 k ∧ I' 103 k = I 103 k ∧ J' 105 k = J 105 k) (hr : tb_run tb_bl b len i p) (hp : p < len) (hpq : p < q) (hq : q ≤ len) (h4 : I' 104 t = (p : Int)) (hM : tk_M b len p q (I' 103 t) (J' 105 t)) : tm_pre b I' J' len (t + 1) q := by
  obtain ⟨ps, es, h0, ht, hc⟩ := h
  refine ⟨fun k => if k < t then ps k else p, fun k => if k ≤ t then es k else q, ?_, ?_, fun k hkt => ?_⟩
  · show (if 0 ≤ t then es 0 else q) = 0
    rw [if_pos (Nat.zero_le _)]; exact h0
  · show (if t + 1 ≤ t then es (t + 1) else q) = q
    rw [if_neg (by omega)]
  · by_cases e : k = t
    · subst e
      simp only [if_pos (Nat.le_refl k), if_neg (Nat.lt_irrefl k), if_neg (show ¬ k + 1 ≤ k by omega), ht]
      exact ⟨hr, hp, hpq, hq, h4, hM⟩
    · have h2 := hc k (by omega)
      have h3 := hk k (by omega)
      simp only [if_pos (show k ≤ t by omega), if_pos (show k < t by omega), if_pos (show k + 1 ≤ t by omega), h3.1, h3.2.1, h3.2.2]
      exact h2
section SCAN3
variable {d n : Nat} {K : Nat → am_K} {R : Nat → Nat → Option Nat} {Q : am_Q}
theorem m_byteAtv {I J : Nat → Nat → Int} {b : Nat → Int} {len p : Nat} (hB : am_B K R) (hl : I 101 1 = (len : Int)) (hL : len ≤ 1200) (hb : ∀ j : Nat, j < len → I 102 j % 256 = b j) (h : Q (some (.inl (tb_bv b len p))) (n, K, I, J, R)) : am_WP d (am_entry 20 [.inr (.inl 101), .inl (p : Int)] (n, K, I, J, R)) Q := by
  refine m_byteAt hB hl hL hb (fun hlt => ?_) (fun hge => ?_)
  · unfold tb_bv at h; rw [if_pos hlt] at h; exact h
  · unfold tb_bv at h; rw [if_neg (by omega)] at h; exact h
/-- blanks -/
theorem m_scan_bl {I J : Nat → Nat → Int} {b : Nat → Int} {len i0 : Nat} {x2 : Int} (hB : am_B K R) (hl : I 101 1 = (len : Int)) (hL : len ≤ 1200) (hb : ∀ j : Nat, j < len → I 102 j % 256 = b j)
    (post : ∀ p : Nat, tb_run tb_bl b len i0 p → am_WP (d + 1) (22, 19, [.inr (.inl 101), .inl (p : Int), .inl x2, .inl (tb_bv b len p), am_o, am_o], [], (0, 0), n, K, I, J, R) Q) : ∀ (m i : Nat), len ≤ i + m → i0 ≤ i → i ≤ len → (∀ j : Nat, i0 ≤ j → j < i → tb_bl (b j)) → am_WP (d + 1) (22, 19, [.inr (.inl 101), .inl (i : Int), .inl x2, .inl (tb_bv b len i), am_o, am_o], [], (0, 0), n, K, I, J, R) Q := by
  intro m
  induction m with
  | zero =>
    intro i h1 h2 h3 h4
    exact post i (tb_run_stop h2 h3 h4 (fun h => by omega))
  | succ m ih =>
    intro i h1 h2 h3 h4
    by_cases hlt : i < len
    · by_cases hbl : tb_bl (b i)
      · have ev : tb_bv b len i = b i := by unfold tb_bv; rw [if_pos hlt]
        have hbl' := hbl
        unfold tb_bl at hbl'
        have step : am_WP d (am_entry 20 [.inr (.inl 101), .inl ((i + 1 : Nat) : Int)] (n, K, I, J, R)) (fun v2 s3 => ∃ z4 : Int, v2 = some (.inl z4) ∧ am_WP (d + 1) (22, 39, [.inr (.inl 101), .inl ((i + 1 : Nat) : Int), .inl x2, .inl (tb_bv b len i), am_o, am_o], [.inl z4], (0, 0), s3) Q) :=
          m_byteAtv hB hl hL hb ⟨_, rfl, s_M_scan_39 (ih (i + 1) (by omega) (by omega) (by omega) (tb_all_next h4 hbl))⟩
        exact s_M_scan_19 ⟨fun h => am_ar_i (by omega) (by omega) ⟨(am_kk hB rfl), step⟩, fun h => ⟨fun g => absurd g (by omega), fun g => am_ar_i (by omega) (by omega) ⟨(am_kk hB rfl), step⟩⟩⟩
      · exact post i (tb_run_stop h2 h3 h4 (fun _ => hbl))
    · exact post i (tb_run_stop h2 h3 h4 (fun h => by omega))
/-- digits -/
theorem m_scan_dig {I J : Nat → Nat → Int} {b : Nat → Int} {len p t : Nat} {x2 : Int} (hB : am_B K R) (hl : I 101 1 = (len : Int)) (hL : len ≤ 1200) (hb : ∀ j : Nat, j < len → I 102 j % 256 = b j) (ht : I 101 3 = (t : Int)) (ht2 : t < 1201) (hp : p < len) (hdg : tb_dig (b p))
    (post : ∀ (q : Nat) (s w x4 x5 : Int), p < q → q ≤ len → tk_M b len p q s w → am_WP (d + 1) (22, 242, [.inr (.inl 101), .inl (q : Int), .inl x2, .inl (b p), .inl x4, .inl x5], [], (0, 0), n, K, am_u I 103 t s, am_u J 105 t w, R) Q) : ∀ (m q : Nat) (v : Int), len ≤ q + m → p ≤ q → q ≤ len → (∀ j : Nat, p ≤ j → j < q → tb_dig (b j)) → (q - p ≤ 4 ∧ v = tb_dv b p (q - p) ∨ 4 < q - p ∧ v = 9999) → am_WP (d + 1) (22, 120, [.inr (.inl 101), .inl (q : Int), .inl x2, .inl (b p), .inl ((q - p : Nat) : Int), .inl v], [], (0, 0), n, K, I, J, R) Q := by
  intro m
  have fin : ∀ (q : Nat) (v : Int), p ≤ q → q ≤ len → (∀ j : Nat, p ≤ j → j < q → tb_dig (b j)) → (q < len → ¬ tb_dig (b q)) → (q - p ≤ 4 ∧ v = tb_dv b p (q - p) ∨ 4 < q - p ∧ v = 9999) → am_WP (d + 1) (22, 128, [.inr (.inl 101), .inl (q : Int), .inl x2, .inl (b p), .inl ((q - p : Nat) : Int), .inl v], [.inl 0], (0, 0), n, K, I, J, R) Q := by
    intro q v h2 h3 h4 h5 h6
    have hpq : p < q := by
      rcases Nat.lt_or_ge p q with h | h
      · exact h
      · have e : q = p := by omega
        rw [e] at h5
        exact absurd hdg (h5 hp)
    have hr : tb_run tb_dig b len p q := ⟨h2, h3, h4, h5⟩
    have out : ∀ s : Int, tk_M b len p q s v → am_WP (d + 1) (22, 201, [.inr (.inl 101), .inl (q : Int), .inl x2, .inl (b p), .inl ((q - p : Nat) : Int), .inl v], [.inl s, .inl (t : Int), .inr (.inl 103)], (0, 0), n, K, I, J, R) Q := by
      intro s hM
      refine s_M_scan_201 ⟨_, by decide, (am_kk hB rfl), ⟨by omega, by omega⟩, (am_kk hB rfl), _, (am_rf hB rfl), (am_kk hB rfl), am_nm_ne (by decide) (am_nm_k ht ?_)⟩
      rintro _ rfl _ _
      exact ⟨_, by decide, (am_kk hB rfl), ⟨by omega, by omega⟩, post q s v _ _ hpq h3 hM⟩
    have dv : q - p ≤ 4 → 0 ≤ tb_dv b p (q - p) ∧ tb_dv b p (q - p) < 10 ^ (q - p) := fun _ => tb_dv_rg (q - p) (fun j a c => h4 j a (by omega))
    have d48 := h4 p (Nat.le_refl _) hpq
    unfold tb_dig at d48
    have lead : q - p = 4 → b p ≠ 48 → 1000 ≤ tb_dv b p (q - p) := by
      intro e hne
      rw [e]
      have g1 := h4 (p + 1) (by omega) (by omega)
      have g2 := h4 (p + 2) (by omega) (by omega)
      have g3 := h4 (p + 3) (by omega) (by omega)
      unfold tb_dig at g1 g2 g3
      show 1000 ≤ 10 * (10 * (10 * (10 * 0 + (b (p + 0) - 48)) + (b (p + 1) - 48)) + (b (p + 2) - 48)) + (b (p + 3) - 48)
      rw [Nat.add_zero]
      omega
    have small : q - p ≤ 3 → v ≤ 999 := by
      intro h
      have h7 := dv (by omega)
      have h8 : (10 : Int) ^ (q - p) ≤ 1000 := by
        have : q - p = 1 ∨ q - p = 2 ∨ q - p = 3 := by omega
        rcases this with e | e | e <;> rw [e] <;> decide
      rcases h6 with h6 | h6 <;> omega
    refine s_M_scan_128 ⟨fun _ => ⟨(am_kk hB rfl), _, (am_rf hB rfl), (am_kk hB rfl), am_nm_k ht ?_⟩, fun h => absurd rfl h⟩
    rintro _ rfl _ _
    refine ⟨fun hc => s_M_scan_196 (out 1 (Or.inr (Or.inl ⟨hdg, hr, Or.inr ⟨?_, rfl⟩⟩))), fun hc => ⟨fun h1 => s_M_scan_200 (out 5 (Or.inr (Or.inl ⟨hdg, hr, Or.inl ⟨Or.inl (by omega), rfl, ?_⟩⟩))), fun h1 => ⟨fun hz => s_M_scan_200 (out 5 (Or.inr (Or.inl ⟨hdg, hr, Or.inl ⟨Or.inr ⟨?_, hz⟩, rfl, ?_⟩⟩))), fun hz => s_M_scan_196 (out 1 (Or.inr (Or.inl ⟨hdg, hr, Or.inr ⟨by omega, rfl⟩⟩)))⟩⟩⟩
    · intro k
      have : q - p ≤ 3 := by omega
      have := small this
      omega
    · rcases h6 with h6 | h6
      · exact h6.2
      · omega
    · rcases h6 with h6 | h6
      · rcases Nat.lt_or_ge (q - p) 4 with g | g
        · omega
        · have := lead (by omega) hz
          omega
      · omega
    · rcases h6 with h6 | h6
      · exact h6.2
      · omega
  induction m with
  | zero =>
    intro q v h1 h2 h3 h4 h6
    refine s_M_scan_120 ⟨(am_kk hB rfl), m_byteAtv hB hl hL hb ⟨_, rfl, s_M_scan_125 (m_isFigure (fun hg => ?_) (fun hg => ⟨_, rfl, fin q v h2 h3 h4 (fun h => by omega) h6⟩))⟩⟩
    unfold tb_bv at hg
    rw [if_neg (by omega)] at hg
    unfold tb_dig at hg
    omega
  | succ m ih =>
    intro q v h1 h2 h3 h4 h6
    refine s_M_scan_120 ⟨(am_kk hB rfl), m_byteAtv hB hl hL hb ⟨_, rfl, s_M_scan_125 (m_isFigure (fun hg => ⟨_, rfl, ?_⟩) (fun hg => ⟨_, rfl, fin q v h2 h3 h4 (fun h => ?_) h6⟩))⟩⟩
    · by_cases hlt : q < len
      · have ev : tb_bv b len q = b q := by unfold tb_bv; rw [if_pos hlt]
        rw [ev] at hg
        have hg' := hg
        unfold tb_dig at hg'
        have nx : ∀ z : Int, (q + 1 - p ≤ 4 ∧ z = tb_dv b p (q + 1 - p) ∨ 4 < q + 1 - p ∧ z = 9999) → am_WP (d + 1) (22, 157, [.inr (.inl 101), .inl (q : Int), .inl x2, .inl (b p), .inl ((q - p : Nat) : Int), .inl v], [.inl z], (0, 0), n, K, I, J, R) Q := by
          intro z hz
          refine s_M_scan_157 (am_ar_i (by omega) (by omega) (am_ar_i (by omega) (by omega) ?_))
          have := ih (q + 1) z (by omega) (by omega) (by omega) (tb_all_next h4 hg) hz
          rw [show ((q + 1 - p : Nat) : Int) = ((q - p : Nat) : Int) + 1 by omega] at this
          exact this
        have dv : q - p ≤ 4 → 0 ≤ tb_dv b p (q - p) ∧ tb_dv b p (q - p) < 10 ^ (q - p) := fun _ => tb_dv_rg (q - p) (fun j a c => h4 j a (by omega))
        have bd : q - p < 4 → 0 ≤ v ∧ v ≤ 1000 := by
          intro h
          have h7 := dv (by omega)
          have h8 : (10 : Int) ^ (q - p) ≤ 1000 := by
            have : q - p = 0 ∨ q - p = 1 ∨ q - p = 2 ∨ q - p = 3 := by omega
            rcases this with e | e | e | e <;> rw [e] <;> decide
          rcases h6 with h6 | h6 <;> omega
        refine s_M_scan_128 ⟨fun h => absurd h (by decide), fun _ => ⟨fun h4' => nx 9999 (Or.inr ⟨by omega, rfl⟩), fun hl4 => am_ar_i (by have := bd (by omega); omega) (by have := bd (by omega); omega) ⟨(am_kk hB rfl), m_byteAtv hB hl hL hb ⟨_, rfl, ?_⟩⟩⟩⟩
        have h9 := bd (by omega)
        rw [ev]
        refine s_M_scan_147 (am_ar_i (by omega) (by omega) (am_ar_i (by omega) (by omega) (nx _ (Or.inl ⟨by omega, ?_⟩))))
        rw [show q + 1 - p = (q - p) + 1 by omega]
        show _ = 10 * tb_dv b p (q - p) + (b (p + (q - p)) - 48)
        rw [show p + (q - p) = q by omega]
        rcases h6 with h6 | h6 <;> omega
      · unfold tb_bv at hg
        rw [if_neg hlt] at hg
        unfold tb_dig at hg
        omega
    · have ev : tb_bv b len q = b q := by unfold tb_bv; rw [if_pos h]
      rw [← ev]; exact hg
end SCAN3
