/-! MEANING: the reference, before types -/
theorem am_l2i_k {x : Int} (h : -2147483648 ≤ x ∧ x ≤ 2147483647) : am_l2i x = x := by
  unfold am_l2i
  have e := am_i2l h
  rw [← e]
  rw [Int32.toInt32_toInt64]
  exact am_to h
/-- what a meaning changes: s's part of each table -/
def mw : Nat → Nat
  | 107 => 26
  | 108 => 1
  | 109 => 1
  | 111 => 36
  | 112 => 36
  | 113 => 108
  | 114 => 1
  | 115 => 4
  | 116 => 1
  | 117 => 1
  | 118 => 12
  | 119 => 12
  | 120 => 1800
  | 121 => 1800
  | _ => 0
def mm_ch (s a j : Nat) : Prop := (a = 101 ∧ (j = 7 ∨ j = 8 ∨ j = 9 ∨ (33 ≤ j ∧ j ≤ 37))) ∨ (122 ≤ a ∧ a ≤ 124) ∨ (107 ≤ a ∧ a ≤ 121 ∧ mw a * s ≤ j ∧ j < mw a * s + mw a)
def mm_fr (s : Nat) (I I' J J' : Nat → Nat → Int) : Prop := (∀ a j : Nat, ¬ mm_ch s a j → I' a j = I a j) ∧ ∀ a j : Nat, ¬ (a = 110 ∧ 36 * s ≤ j ∧ j < 36 * s + 36) → J' a j = J a j
theorem mm_refl {s : Nat} {I J : Nat → Nat → Int} : mm_fr s I I J J := ⟨fun _ _ _ => rfl, fun _ _ _ => rfl⟩
theorem mm_trans {s : Nat} {I I1 I2 J J1 J2 : Nat → Nat → Int} (h : mm_fr s I I1 J J1) (h' : mm_fr s I1 I2 J1 J2) : mm_fr s I I2 J J2 :=
  ⟨fun a j g => (h'.1 a j g).trans (h.1 a j g), fun a j g => (h'.2 a j g).trans (h.2 a j g)⟩
theorem mm_ut {s a k : Nat} {I I1 J J1 : Nat → Nat → Int} {v : Int} (h0 : mm_fr s I I1 J J1) (h : mm_ch s a k) : mm_fr s I (am_u I1 a k v) J J1 :=
  ⟨fun x j g => (am_u_off (by rintro ⟨rfl, rfl⟩; exact g h)).trans (h0.1 x j g), h0.2⟩
theorem mm_uJ {s k : Nat} {I I1 J J1 : Nat → Nat → Int} {v : Int} (h0 : mm_fr s I I1 J J1) (h : 36 * s ≤ k ∧ k < 36 * s + 36) : mm_fr s I I1 J (am_u J1 110 k v) :=
  ⟨h0.1, fun x j g => (am_u_off (by rintro ⟨rfl, rfl⟩; exact g ⟨rfl, h⟩)).trans (h0.2 x j g)⟩
theorem mm_101 {s j : Nat} (h : j = 7 ∨ j = 8 ∨ j = 9 ∨ (33 ≤ j ∧ j ≤ 37)) : mm_ch s 101 j := Or.inl ⟨rfl, h⟩
theorem mm_tb {s a j : Nat} (h1 : 107 ≤ a ∧ a ≤ 121) (h2 : mw a * s ≤ j) (h3 : j < mw a * s + mw a) : mm_ch s a j := Or.inr (Or.inr ⟨h1.1, h1.2, h2, h3⟩)
theorem mm_lo {s a j : Nat} (h : a < 101 ∨ 102 ≤ a ∧ a ≤ 106 ∨ 125 ≤ a) : ¬ mm_ch s a j := by
  rintro (q | q | q)
  · omega
  · omega
  · omega
theorem mm_10 {s j : Nat} (h : j ≤ 6 ∨ 10 ≤ j ∧ j ≤ 32 ∨ 38 ≤ j) : ¬ mm_ch s 101 j := by
  rintro (q | q | q)
  · omega
  · omega
  · omega
theorem mm_ot {s s' a j : Nat} (h : s ≠ s') (h1 : 107 ≤ a ∧ a ≤ 121) (h2 : mw a * s' ≤ j) (h3 : j < mw a * s' + mw a) : ¬ mm_ch s a j := by
  rintro (q | q | q)
  · omega
  · omega
  · obtain ⟨-, -, q1, q2⟩ := q
    rcases Nat.lt_or_gt_of_ne h with g | g
    · have : mw a * (s + 1) ≤ mw a * s' := Nat.mul_le_mul_left _ g
      rw [Nat.mul_add, Nat.mul_one] at this
      omega
    · have : mw a * (s' + 1) ≤ mw a * s := Nat.mul_le_mul_left _ g
      rw [Nat.mul_add, Nat.mul_one] at this
      omega
theorem mt_mm {s : Nat} {I I' J J' : Nat → Nat → Int} {kd pl nu nm : Nat → Int} {c : Nat} (hT : mt_T I J kd pl nu nm c) (h : mm_fr s I I' J J') : mt_T I' J' kd pl nu nm c := by
  refine ⟨fun k hk => ?_, hT.2⟩
  rw [h.1 104 k (mm_lo (by omega)), h.1 103 k (mm_lo (by omega)), h.2 105 k (by omega)]
  exact hT.1 k hk
/-- the kind of a letter's type: 3 for I, 1 data, 2 new -/
def kx (g nw : Nat → Int) (k : Nat) (l : Int) : Int := if l = 8 then 3 else if fx g k l = -1 then 0 else nw (fx g k l).toNat + 1
theorem kx_0 {g nw : Nat → Int} {k : Nat} {l : Int} (hn : ∀ T : Nat, T < k → nw T = 0 ∨ nw T = 1) : kx g nw k l = 0 ↔ lx g k l = -1 := by
  unfold kx lx
  by_cases e : l = 8
  · rw [if_pos e, if_pos e]; omega
  · rw [if_neg e, if_neg e]
    rcases fx_cases g l k with ⟨h, -⟩ | ⟨c, hc, h, -, -⟩
    · rw [h]; simp
    · rw [h, if_neg (by omega), Int.toNat_natCast]
      have := hn c hc
      omega
theorem kx_step {g nw : Nat → Int} {k : Nat} {l : Int} : kx g nw (k + 1) l = (if g k = l ∧ l ≠ 8 ∧ fx g k l = -1 then nw k + 1 else kx g nw k l) := by
  unfold kx
  by_cases e : l = 8
  · rw [if_pos e, if_pos e, if_neg (fun q => q.2.1 e)]
  · rw [if_neg e, if_neg e]
    have es : fx g (k + 1) l = (if fx g k l ≠ -1 then fx g k l else if g k = l then (k : Int) else -1) := rfl
    by_cases e2 : fx g k l = -1
    · by_cases e3 : g k = l
      · rw [es]
        simp only [e, e2, e3, ne_eq, not_true_eq_false, not_false_eq_true, if_true, if_false, and_self]
        rw [if_neg (by omega), Int.toNat_natCast]
      · rw [es]; simp [e2, e3]
    · rw [es]; simp [e2]
section MM
variable {d n : Nat} {K : Nat → am_K} {I J : Nat → Nat → Int} {R : Nat → Nat → Option Nat} {Q : am_Q} {kd pl nu nm : Nat → Int} {c i s : Nat}
theorem m_findCon {x : Int} {m : Nat} (hB : am_B K R) (hs : s < 2) (hm : I 109 s = (m : Int)) (hm2 : m ≤ 36) (post : Q (some (.inl (fx (fun c => J 110 (36 * s + c)) m x))) (n, K, I, J, R)) : am_WP d (am_entry 38 [.inr (.inl 101), .inl (s : Int), .inr (.inr (some x))] (n, K, I, J, R)) Q := by
  have loop : ∀ (u c : Nat), c + u = m → (∀ j : Nat, j < c → J 110 (36 * s + j) ≠ x) → am_WP d (38, 3, [.inr (.inl 101), .inl (s : Int), .inr (.inr (some x)), am_o, .inl (c : Int)], [], (0, 0), n, K, I, J, R) Q := by
    intro u
    induction u with
    | zero =>
      intro c hu hc
      refine s_M_findCon_3 ⟨(am_kk hB rfl), _, (am_rf hB rfl), _, (am_kk hB rfl), ⟨by omega, by omega⟩, am_nm_k hm ?_⟩
      rintro _ rfl _ _
      refine ⟨fun _ => ?_, fun h => absurd h (by omega)⟩
      rw [fx_none m (fun j hj => hc j (by omega))] at post
      exact post
    | succ u ih =>
      intro c hu hc
      refine s_M_findCon_3 ⟨(am_kk hB rfl), _, (am_rf hB rfl), _, (am_kk hB rfl), ⟨by omega, by omega⟩, am_nm_k hm ?_⟩
      rintro _ rfl _ _
      refine ⟨fun h => absurd h (by omega), fun _ => ⟨(am_kk hB rfl), _, (am_rf hB rfl), am_ar_i (by omega) (by omega) (am_ar_i (by omega) (by omega) ?_)⟩⟩
      rw [show (36 : Int) * (s : Int) + (c : Int) = ((36 * s + c : Nat) : Int) by omega]
      refine ⟨_, by decide, (am_kk hB rfl), ⟨by omega, by omega⟩, fun z3 hz3 _ _ z5 hz5 _ _ => ⟨fun h => am_ar_i (by omega) (by omega) (ih (c + 1) (by omega) (fun j hj => ?_)), fun h => ?_⟩⟩
      · by_cases e : j = c
        · rw [e]
          intro q
          apply h
          rw [hz5, am_lc0, hz3]
          exact q
        · exact hc j (by omega)
      · rw [hz5, am_lc0, hz3] at h
        rw [fx_some (g := fun c => J 110 (36 * s + c)) m c (by omega) h hc] at post
        exact post
  exact e_M_findCon (loop m 0 (by omega) (fun j hj => absurd hj (Nat.not_lt_zero j)))
/-- a type's letter is its number -/
theorem tr_let {k num nm' s' w : Int} (h : tk_rel k num nm' s' w) (hk : k = 2) : w = num ∧ 0 ≤ num ∧ num ≤ 25 := by
  subst hk
  rcases h with h | h | h | h | h | h | h | h | h | h | h
  · exact absurd h.1 (by decide)
  · exact absurd h.1 (by decide)
  · exact h.2.2
  · exact absurd h.1 (by decide)
  · exact absurd h.1 (by decide)
  · exact absurd h.1 (by decide)
  · exact absurd h.1 (by decide)
  · exact absurd h.1 (by decide)
  · exact absurd h.1 (by decide)
  · exact absurd h.1 (by decide)
  · have := h.1
    unfold tb_sg at this
    omega
theorem tr_wrd {k num nm' s' w : Int} (h : tk_rel k num nm' s' w) (hk : k = 3) : tk_w w nm' := by
  subst hk
  rcases h with h | h | h | h | h | h | h | h | h | h | h
  · exact absurd h.1 (by decide)
  · exact absurd h.1 (by decide)
  · exact absurd h.1 (by decide)
  · exact h.2.2.1
  · exact absurd h.1 (by decide)
  · exact absurd h.1 (by decide)
  · exact absurd h.1 (by decide)
  · exact absurd h.1 (by decide)
  · exact absurd h.1 (by decide)
  · exact absurd h.1 (by decide)
  · have := h.1
    unfold tb_sg at this
    omega
theorem tr_dig {k num nm' s' w : Int} (h : tk_rel k num nm' s' w) (hk : k = 5) : w = num ∧ 0 ≤ num ∧ num ≤ 999 := by
  subst hk
  rcases h with h | h | h | h | h | h | h | h | h | h | h
  · exact absurd h.1 (by decide)
  · exact absurd h.1 (by decide)
  · exact absurd h.1 (by decide)
  · exact absurd h.1 (by decide)
  · exact absurd h.1 (by decide)
  · exact h.2.2
  · exact absurd h.1 (by decide)
  · exact absurd h.1 (by decide)
  · exact absurd h.1 (by decide)
  · exact absurd h.1 (by decide)
  · have := h.1
    unfold tb_sg at this
    omega
/-- the letter at a token, as an int -/
theorem m_let {P : Int → Prop} {i : Nat} (hB : am_B K R) (hT : mt_T I J kd pl nu nm c) (hc : i ≤ c) (hk : kd i = 2) (h : P (nu i)) : ∃ n4 : Nat, am_nc ≤ 105 ∧ K 105 = .inr (2, n4) ∧ (0 ≤ (i : Int) ∧ (i : Int) < (n4 : Int)) ∧ am_nl (J 105 (Int.toNat (i : Int))) fun z5 => am_nm (am_l2i z5) P := by
  have h12 := hT.2.1
  obtain ⟨e1, e2, e3⟩ := tr_let (hT.1 i hc).2 hk
  refine ⟨_, by decide, (am_kk hB rfl), ⟨by omega, by omega⟩, am_nl_k e1 ?_⟩
  rintro _ rfl _ _
  refine am_nm_k (am_l2i_k ⟨by omega, by omega⟩) ?_
  rintro _ rfl _ _
  exact h
end MM
