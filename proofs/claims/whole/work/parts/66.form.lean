/-! THE CLASS READS TERMS -/
def ft_T (I J : Nat → Nat → Int) (kd pl nu nm : Nat → Int) (c : Nat) : Prop := I 15 = kd ∧ I 16 = pl ∧ I 17 = nu ∧ J 18 = nm ∧ I 13 6 = (c : Int) + 1 ∧ c ≤ 1200 ∧ (∀ k : Nat, k < c → kd k ≠ 0 ∧ kd k ≠ 1) ∧ (kd c = 0 ∨ kd c = 1)
def ft_b (b : Nat) : Prop := b = 19 ∨ b = 56 ∨ b = 86
/-- what reading terms changes: the rows from an index on, how many there are, the token that stands -/
def ft_fr (b n : Nat) (I I' J J' : Nat → Nat → Int) : Prop := (∀ a j : Nat, (a < b ∨ b + 9 < a) → ¬ (a = 13 ∧ j = 7) → I' a j = I a j) ∧ (∀ a j : Nat, b + 1 ≤ a → a ≤ b + 9 → j < n → I' a j = I a j) ∧ (∀ j : Nat, j ≠ 0 → I' b j = I b j) ∧ (∀ a j : Nat, ¬ (a = b + 5 ∧ n ≤ j) → J' a j = J a j)
theorem ft_fr_refl {b n : Nat} {I J : Nat → Nat → Int} : ft_fr b n I I J J := ⟨fun _ _ _ _ => rfl, fun _ _ _ _ _ => rfl, fun _ _ => rfl, fun _ _ _ => rfl⟩
theorem ft_fr_trans {b n n' : Nat} {I I1 I2 J J1 J2 : Nat → Nat → Int} (h : ft_fr b n I I1 J J1) (h' : ft_fr b n' I1 I2 J1 J2) (hn : n ≤ n') : ft_fr b n I I2 J J2 :=
  ⟨fun a j g1 g2 => (h'.1 a j g1 g2).trans (h.1 a j g1 g2), fun a j g1 g2 g3 => (h'.2.1 a j g1 g2 (by omega)).trans (h.2.1 a j g1 g2 g3), fun j g => (h'.2.2.1 j g).trans (h.2.2.1 j g), fun a j g => (h'.2.2.2 a j (by omega)).trans (h.2.2.2 a j g)⟩
theorem ft_fr_up {b n : Nat} {I J : Nat → Nat → Int} {a k : Nat} {v : Int} (ha : b + 1 ≤ a) (ha2 : a ≤ b + 9) (hk : n ≤ k) : ft_fr b n I (am_u I a k v) J J :=
  ⟨fun x j g1 g2 => am_u_ne (by omega), fun x j g1 g2 g3 => by
    by_cases e : x = a
    · subst e; exact am_u_kn (by omega)
    · exact am_u_ne e, fun j g => am_u_ne (by omega), fun _ _ _ => rfl⟩
theorem ft_T_fr {b n c : Nat} {I I' J J' : Nat → Nat → Int} {kd pl nu nm : Nat → Int} (hb : ft_b b) (h : ft_T I J kd pl nu nm c) (hf : ft_fr b n I I' J J') : ft_T I' J' kd pl nu nm c := by
  obtain ⟨h1, h2, h3, h4, h5, h6⟩ := h
  unfold ft_b at hb
  refine ⟨?_, ?_, ?_, ?_, ?_, h6⟩
  · rw [← h1]; funext j; exact hf.1 15 j (by omega) (by omega)
  · rw [← h2]; funext j; exact hf.1 16 j (by omega) (by omega)
  · rw [← h3]; funext j; exact hf.1 17 j (by omega) (by omega)
  · rw [← h4]; funext j; exact hf.2.2.2 18 j (by omega)
  · rw [hf.1 13 6 (by omega) (by omega)]; exact h5
theorem ft_T_cur {c : Nat} {I J : Nat → Nat → Int} {kd pl nu nm : Nat → Int} {v : Int} (h : ft_T I J kd pl nu nm c) : ft_T (am_u I 13 7 v) J kd pl nu nm c := by
  obtain ⟨h1, h2, h3, h4, h5, h6⟩ := h
  exact ⟨by rw [am_u_row (by decide)]; exact h1, by rw [am_u_row (by decide)]; exact h2, by rw [am_u_row (by decide)]; exact h3, h4, by rw [am_u_kn (by decide)]; exact h5, h6⟩
theorem am_kb {K : Nat → am_K} {R : Nat → Nat → Option Nat} {b i : Nat} {v : am_K} (hB : am_B K R) (hb : ft_b b) (hi : i < 10) (e : am_Kt (19 + i) = some (19 + i, v)) : K (b + i) = v := by
  rcases hb with h | h | h
  · subst h; exact am_kk hB e
  · subst h
    have : ∀ i : Nat, i < 10 → am_Kt (56 + i) = (am_Kt (19 + i)).map (fun q => (56 + i, q.2)) := by decide
    refine am_kk hB ?_
    rw [this i hi, e]; rfl
  · subst h
    have : ∀ i : Nat, i < 10 → am_Kt (86 + i) = (am_Kt (19 + i)).map (fun q => (86 + i, q.2)) := by decide
    refine am_kk hB ?_
    rw [this i hi, e]; rfl
theorem am_rb {K : Nat → am_K} {R : Nat → Nat → Option Nat} {b k j : Nat} (hB : am_B K R) (hb : ft_b b) (e : k = j + 1) (h : (Nat.ble 1 j && Nat.ble j 9) = true) : R b k = some (b + j) := by
  subst e
  have h2 : 1 ≤ j ∧ j ≤ 9 := by
    rw [Bool.and_eq_true, Nat.ble_eq, Nat.ble_eq] at h; exact h
  have g : j = 1 ∨ j = 2 ∨ j = 3 ∨ j = 4 ∨ j = 5 ∨ j = 6 ∨ j = 7 ∨ j = 8 ∨ j = 9 := by omega
  rcases hb with h | h | h <;> subst h <;> rcases g with g | g | g | g | g | g | g | g | g <;> subst g <;> exact am_rf hB rfl
section XF
variable {d n : Nat} {K : Nat → am_K} {I J : Nat → Nat → Int} {R : Nat → Nat → Option Nat} {Q : am_Q} {kd pl nu nm : Nat → Int} {c i b : Nat}
theorem x_kind (hB : am_B K R) (hT : ft_T I J kd pl nu nm c) (hi : I 13 7 = (i : Int)) (hc : i ≤ c) (post : Q (some (.inl (kd i))) (n, K, I, J, R)) : am_WP d (am_entry 140 [.inr (.inl 13)] (n, K, I, J, R)) Q := by
  obtain ⟨h1, h2, h3, h4, h5, h6, -⟩ := hT
  refine e_Tokens_kind ⟨(am_kk hB rfl), _, (am_rf hB rfl), (am_kk hB rfl), am_nm_k hi ?_⟩
  rintro _ rfl _ _
  refine ⟨_, (am_kk hB rfl), ⟨by omega, by omega⟩, am_nm_k (congrFun h1 i) ?_⟩
  rintro _ rfl _ _
  exact post
theorem x_at (hB : am_B K R) (hT : ft_T I J kd pl nu nm c) (hi : I 13 7 = (i : Int)) (hc : i ≤ c) (post : Q (some (.inl (pl i))) (n, K, I, J, R)) : am_WP d (am_entry 141 [.inr (.inl 13)] (n, K, I, J, R)) Q := by
  obtain ⟨h1, h2, h3, h4, h5, h6, -⟩ := hT
  refine e_Tokens_at ⟨(am_kk hB rfl), _, (am_rf hB rfl), (am_kk hB rfl), am_nm_k hi ?_⟩
  rintro _ rfl _ _
  refine ⟨_, (am_kk hB rfl), ⟨by omega, by omega⟩, am_nm_k (congrFun h2 i) ?_⟩
  rintro _ rfl _ _
  exact post
theorem x_number (hB : am_B K R) (hT : ft_T I J kd pl nu nm c) (hi : I 13 7 = (i : Int)) (hc : i ≤ c) (post : Q (some (.inl (nu i))) (n, K, I, J, R)) : am_WP d (am_entry 142 [.inr (.inl 13)] (n, K, I, J, R)) Q := by
  obtain ⟨h1, h2, h3, h4, h5, h6, -⟩ := hT
  refine e_Tokens_number ⟨(am_kk hB rfl), _, (am_rf hB rfl), (am_kk hB rfl), am_nm_k hi ?_⟩
  rintro _ rfl _ _
  refine ⟨_, (am_kk hB rfl), ⟨by omega, by omega⟩, am_nm_k (congrFun h3 i) ?_⟩
  rintro _ rfl _ _
  exact post
theorem x_name (hB : am_B K R) (hT : ft_T I J kd pl nu nm c) (hi : I 13 7 = (i : Int)) (hc : i ≤ c) (post : Q (some (.inr (.inr (some (nm i))))) (n, K, I, J, R)) : am_WP d (am_entry 143 [.inr (.inl 13)] (n, K, I, J, R)) Q := by
  obtain ⟨h1, h2, h3, h4, h5, h6, -⟩ := hT
  refine e_Tokens_name ⟨(am_kk hB rfl), _, (am_rf hB rfl), (am_kk hB rfl), am_nm_k hi ?_⟩
  rintro _ rfl _ _
  refine ⟨_, by decide, (am_kk hB rfl), ⟨by omega, by omega⟩, am_nl_k (congrFun h4 i) ?_⟩
  rintro _ rfl _ _
  exact post
theorem x_adv (hB : am_B K R) (hT : ft_T I J kd pl nu nm c) (hi : I 13 7 = (i : Int)) (hc : i < c) (post : Q none (n, K, am_u I 13 7 ((i + 1 : Nat) : Int), J, R)) : am_WP d (am_entry 144 [.inr (.inl 13)] (n, K, I, J, R)) Q := by
  obtain ⟨h1, h2, h3, h4, h5, h6, -⟩ := hT
  refine e_Tokens_advance ⟨(am_kk hB rfl), am_nm_k hi ?_⟩
  rintro _ rfl _ _
  refine ⟨(am_kk hB rfl), am_nm_k h5 ?_⟩
  rintro _ rfl _ _
  refine am_ar_i (by omega) (by omega) ⟨fun h => absurd h (by omega), fun _ => ⟨(am_kk hB rfl), am_nm_k hi ?_⟩⟩
  rintro _ rfl _ _
  exact am_ar_i (by omega) (by omega) ⟨⟨by decide, (am_kk hB rfl)⟩, post⟩
theorem ft_lt (hT : ft_T I J kd pl nu nm c) (hc : i ≤ c) (h0 : kd i ≠ 0) (h1 : kd i ≠ 1) : i < c := by
  obtain ⟨-, -, -, -, -, -, -, h⟩ := hT
  rcases Nat.lt_or_ge i c with g | g
  · exact g
  · have e : i = c := by omega
    subst e
    rcases h with h | h
    · exact absurd h h0
    · exact absurd h h1
theorem x_pass {k : Int} (hB : am_B K R) (hT : ft_T I J kd pl nu nm c) (hi : I 13 7 = (i : Int)) (hc : i ≤ c) (hk : k ≠ 0 ∧ k ≠ 1) (yes : kd i = k → i < c → Q (some (.inl 1)) (n, K, am_u I 13 7 ((i + 1 : Nat) : Int), J, R)) (no : kd i ≠ k → Q (some (.inl 0)) (n, K, I, J, R)) : am_WP (d + 1) (am_entry 93 [.inr (.inl 12), .inl k] (n, K, I, J, R)) Q := by
  refine e_Form_pass ⟨(am_kk hB rfl), _, (am_rf hB rfl), (am_kk hB rfl), x_kind hB hT hi hc ⟨_, rfl, s_Form_pass_7 ⟨fun h => ⟨(am_kk hB rfl), _, (am_rf hB rfl), (am_kk hB rfl), ?_⟩, fun h => ⟨Or.inl rfl, no h⟩⟩⟩⟩
  have hlt : i < c := ft_lt hT hc (by rw [h]; exact hk.1) (by rw [h]; exact hk.2)
  exact x_adv hB hT hi hlt ⟨rfl, s_Form_pass_20 ⟨Or.inr rfl, yes h hlt⟩⟩
theorem x_ale (hB : am_B K R) (hT : ft_T I J kd pl nu nm c) (hi : I 13 7 = (i : Int)) (hc : i ≤ c) (yes : ft_le (kd i) → Q (some (.inl 1)) (n, K, I, J, R)) (no : ¬ ft_le (kd i) → Q (some (.inl 0)) (n, K, I, J, R)) : am_WP (d + 1) (am_entry 95 [.inr (.inl 12)] (n, K, I, J, R)) Q := by
  unfold ft_le at yes no
  refine e_Form_atListEnd ⟨(am_kk hB rfl), _, (am_rf hB rfl), (am_kk hB rfl), x_kind hB hT hi hc ⟨_, rfl, s_Form_atListEnd_7 ⟨fun h1 => s_Form_atListEnd_35 ⟨Or.inr rfl, yes (by omega)⟩, fun h1 => ⟨fun h2 => s_Form_atListEnd_35 ⟨Or.inr rfl, yes (by omega)⟩, fun h2 => ⟨fun h3 => s_Form_atListEnd_35 ⟨Or.inr rfl, yes (by omega)⟩, fun h3 => ⟨fun h4 => s_Form_atListEnd_35 ⟨Or.inl rfl, no (by omega)⟩, fun h4 => s_Form_atListEnd_35 ⟨Or.inr rfl, yes (by omega)⟩⟩⟩⟩⟩⟩⟩
theorem x_add {m : Nat} {k a : Int} (hB : am_B K R) (hb : ft_b b) (hm : I b 0 = (m : Int)) (hm2 : m < 60)
    (post : ∀ I' : Nat → Nat → Int, ft_fr b m I I' J J → I' b 0 = (m : Int) + 1 → I' 13 7 = I 13 7 → I' (b + 1) m = k → I' (b + 2) m = a → I' (b + 3) m = a → I' (b + 4) m = a → I' (b + 8) m = -1 → I' (b + 9) m = -1 → Q (some (.inl (m : Int))) (n, K, I', J, R)) : am_WP (d + 2) (am_entry 136 [.inr (.inl b), .inl k, .inl a] (n, K, I, J, R)) Q := by
  have k0 : K b = .inl 7 := am_kb (i := 0) hB hb (by decide) rfl
  have nb : am_nc ≤ b := by unfold ft_b at hb; unfold am_nc; omega
  refine e_Terms_add ⟨k0, am_nm_k hm ?_⟩
  rintro _ rfl _ _
  refine ⟨fun h => absurd h (by omega), fun _ => ⟨k0, am_nm_k hm ?_⟩⟩
  rintro _ rfl _ _
  refine s_Terms_add_18 ⟨k0, _, am_rb hB hb rfl rfl, _, by omega, am_kb hB hb (by decide) rfl, ⟨by omega, by omega⟩, k0, _, am_rb hB hb rfl rfl, _, by omega, am_kb hB hb (by decide) rfl, ⟨by omega, by omega⟩, k0, _, am_rb hB hb rfl rfl, _, by omega, am_kb hB hb (by decide) rfl, ⟨by omega, by omega⟩, k0, _, am_rb hB hb rfl rfl, _, by omega, am_kb hB hb (by decide) rfl, ⟨by omega, by omega⟩, k0, _, am_rb hB hb rfl rfl, _, by omega, am_kb hB hb (by decide) rfl, ⟨by omega, by omega⟩, k0, _, am_rb hB hb rfl rfl, _, by omega, am_kb hB hb (by decide) rfl, ⟨by omega, by omega⟩, k0, _, am_rb hB hb rfl rfl, _, by omega, am_kb hB hb (by decide) rfl, ⟨by omega, by omega⟩, am_ar_i (by omega) (by omega) ⟨⟨nb, k0⟩, ?_⟩⟩
  have b13 : 13 < b := by unfold ft_b at hb; omega
  show Q (some (.inl (m : Int))) (n, K, am_u (am_u (am_u (am_u (am_u (am_u (am_u (am_u I (b + 1) m k) (b + 2) m a) (b + 3) m a) (b + 4) m a) (b + 7) m (-1)) (b + 8) m (-1)) (b + 9) m (-1)) b 0 ((m : Int) + 1), J, R)
  refine post _ ⟨fun x j g1 g2 => ?_, fun x j g1 g2 g3 => ?_, fun j g => ?_, fun _ _ _ => rfl⟩ am_u_kk ?_ ?_ ?_ ?_ ?_ ?_ ?_
  · rw [am_u_ne (by omega), am_u_ne (by omega), am_u_ne (by omega), am_u_ne (by omega), am_u_ne (by omega), am_u_ne (by omega), am_u_ne (by omega), am_u_ne (by omega)]
  · rw [am_u_ne (by omega)]
    simp only [am_u]
    have e : j ≠ m := by omega
    simp only [if_neg e, ite_self]
  · rw [am_u_kn g, am_u_ne (by omega), am_u_ne (by omega), am_u_ne (by omega), am_u_ne (by omega), am_u_ne (by omega), am_u_ne (by omega), am_u_ne (by omega)]
  · rw [am_u_ne (by omega), am_u_ne (by omega), am_u_ne (by omega), am_u_ne (by omega), am_u_ne (by omega), am_u_ne (by omega), am_u_ne (by omega), am_u_ne (by omega)]
  · rw [am_u_ne (by omega), am_u_ne (by omega), am_u_ne (by omega), am_u_ne (by omega), am_u_ne (by omega), am_u_ne (by omega), am_u_ne (by omega), am_u_kk]
  · rw [am_u_ne (by omega), am_u_ne (by omega), am_u_ne (by omega), am_u_ne (by omega), am_u_ne (by omega), am_u_ne (by omega), am_u_kk]
  · rw [am_u_ne (by omega), am_u_ne (by omega), am_u_ne (by omega), am_u_ne (by omega), am_u_ne (by omega), am_u_kk]
  · rw [am_u_ne (by omega), am_u_ne (by omega), am_u_ne (by omega), am_u_ne (by omega), am_u_kk]
  · rw [am_u_ne (by omega), am_u_ne (by omega), am_u_kk]
  · rw [am_u_ne (by omega), am_u_kk]
/-- what lies at an index -/
def ft_nd (I J : Nat → Nat → Int) (b i : Nat) (l : lb) (f x : Int) : Prop := I (b + 1) i = l.1 ∧ I (b + 2) i = l.2.1 ∧ I (b + 3) i = l.2.2.1 ∧ I (b + 4) i = l.2.2.2.1 ∧ J (b + 5) i = l.2.2.2.2.1 ∧ I (b + 6) i = l.2.2.2.2.2 ∧ I (b + 8) i = f ∧ I (b + 9) i = x
theorem x_leaf {m : Nat} {k : Int} (hB : am_B K R) (hb : ft_b b) (hT : ft_T I J kd pl nu nm c) (hi : I 13 7 = (i : Int)) (hc : i < c) (hm : I b 0 = (m : Int)) (hm2 : m < 60)
    (post : ∀ I' J' : Nat → Nat → Int, ft_fr b m I I' J J' → I' b 0 = ((m + 1 : Nat) : Int) → I' 13 7 = ((i + 1 : Nat) : Int) → ft_nd I' J' b m (k, pl i, pl i, pl i, nm i, nu i) (-1) (-1) → Q (some (.inl (m : Int))) (n, K, I', J', R)) : am_WP (d + 3) (am_entry 97 [.inr (.inl 12), .inr (.inl b), .inl k] (n, K, I, J, R)) Q := by
  have k0 : K b = .inl 7 := am_kb (i := 0) hB hb (by decide) rfl
  have nb : am_nc ≤ b := by unfold ft_b at hb; unfold am_nc; omega
  have b13 : 13 < b := by unfold ft_b at hb; omega
  refine e_Form_readLeaf ⟨(am_kk hB rfl), _, (am_rf hB rfl), (am_kk hB rfl), x_at hB hT hi (by omega) ⟨_, rfl, s_Form_readLeaf_9 ⟨k0, x_add hB hb hm hm2 (fun I1 f1 g1 g2 g3 g4 g5 g6 g7 g8 => ⟨_, rfl, ?_⟩)⟩⟩⟩
  have hT1 := ft_T_fr hb hT f1
  have hi1 : I1 13 7 = (i : Int) := g2.trans hi
  refine s_Form_readLeaf_12 ⟨k0, _, am_rb hB hb rfl rfl, (am_kk hB rfl), _, (am_rf hB rfl), (am_kk hB rfl), x_number hB hT1 hi1 (by omega) ⟨_, rfl, s_Form_readLeaf_25 ⟨_, by omega, am_kb hB hb (by decide) rfl, ⟨by omega, by omega⟩, k0, _, am_rb hB hb rfl rfl, (am_kk hB rfl), _, (am_rf hB rfl), (am_kk hB rfl), ?_⟩⟩⟩
  have f2 : ft_fr b m I1 (am_u I1 (b + 6) m (nu i)) J J := ft_fr_up (by omega) (by omega) (Nat.le_refl _)
  have hT2 := ft_T_fr hb hT1 f2
  have hi2 : am_u I1 (b + 6) m (nu i) 13 7 = (i : Int) := (am_u_ne (by omega)).trans hi1
  refine x_name hB hT2 hi2 (by omega) ⟨_, rfl, s_Form_readLeaf_38 ⟨_, by omega, am_kb hB hb (by decide) rfl, ⟨by omega, by omega⟩, (am_kk hB rfl), _, (am_rf hB rfl), (am_kk hB rfl), ?_⟩⟩
  have f3 : ft_fr b m (am_u I1 (b + 6) m (nu i)) (am_u I1 (b + 6) m (nu i)) J (am_u J (b + 5) m (nm i)) := ⟨fun _ _ _ _ => rfl, fun _ _ _ _ _ => rfl, fun _ _ => rfl, fun a j g => by
    by_cases e : a = b + 5
    · subst e; exact am_u_kn (fun e2 => g ⟨rfl, by omega⟩)
    · exact am_u_ne e⟩
  have hT3 := ft_T_fr hb hT2 f3
  refine x_adv hB hT3 hi2 hc ⟨rfl, s_Form_readLeaf_46 ?_⟩
  have f4 : ft_fr b m (am_u I1 (b + 6) m (nu i)) (am_u (am_u I1 (b + 6) m (nu i)) 13 7 ((i + 1 : Nat) : Int)) (am_u J (b + 5) m (nm i)) (am_u J (b + 5) m (nm i)) := ⟨fun a j q1 q2 => by
    by_cases e : a = 13
    · subst e; exact am_u_kn (fun e2 => q2 ⟨rfl, e2⟩)
    · exact am_u_ne e, fun a j q1 q2 q3 => am_u_ne (by omega), fun j q => am_u_ne (by omega), fun _ _ _ => rfl⟩
  refine post _ _ (ft_fr_trans (ft_fr_trans (ft_fr_trans f1 f2 (Nat.le_refl _)) f3 (Nat.le_refl _)) f4 (Nat.le_refl _)) ?_ am_u_kk ⟨?_, ?_, ?_, ?_, am_u_kk, ?_, ?_, ?_⟩
  · rw [am_u_ne (by omega), am_u_ne (by omega), g1]; rfl
  · rw [am_u_ne (by omega), am_u_ne (by omega), g3]
  · rw [am_u_ne (by omega), am_u_ne (by omega), g4]
  · rw [am_u_ne (by omega), am_u_ne (by omega), g5]
  · rw [am_u_ne (by omega), am_u_ne (by omega), g6]
  · rw [am_u_ne (by omega)]; exact am_u_kk
  · rw [am_u_ne (by omega), am_u_ne (by omega), g7]
  · rw [am_u_ne (by omega), am_u_ne (by omega), g8]
end XF
