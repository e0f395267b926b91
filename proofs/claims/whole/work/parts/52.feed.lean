theorem am_u_ne {f : Nat → Nat → Int} {a k b j : Nat} {v : Int} (h : b ≠ a) : am_u f a k v b j = f b j := by simp [am_u, h]
theorem am_bm {q : Int} (h0 : 0 ≤ q) (h1 : q ≤ 2147483647) : q.bmod 4294967296 = q := by
  rw [Int.bmod_def]
  split <;> omega
theorem am_div32 {x y : Int} (hx : 0 ≤ x ∧ x ≤ 2147483647) (hy : 0 < y ∧ y ≤ 2147483647) : Int32.ofInt x / Int32.ofInt y = Int32.ofInt (x / y) := by
  have q0 : 0 ≤ x / y := Int.ediv_nonneg hx.1 (by omega)
  have q1 : x / y ≤ x := Int.ediv_le_self _ hx.1
  rw [← Int32.toInt_inj, Int32.toInt_div, am_to (by omega), am_to (by omega), am_to (by omega), Int.tdiv_eq_ediv_of_nonneg hx.1]
  exact am_bm q0 (by omega)
theorem am_div_e {x y : Int} (hx : 0 ≤ x ∧ x ≤ 2147483647) (hy : 0 < y ∧ y ≤ 2147483647) : am_div x y = x / y := by
  have q0 : 0 ≤ x / y := Int.ediv_nonneg hx.1 (by omega)
  have q1 : x / y ≤ x := Int.ediv_le_self _ hx.1
  unfold am_div
  rw [am_div32 hx hy, am_to (by omega)]
theorem am_rem_e {x y : Int} (hx : 0 ≤ x ∧ x ≤ 2147483647) (hy : 0 < y ∧ y ≤ 2147483647) : am_rem x y = x % y := by
  unfold am_rem
  have e : x - x / y * y = x % y := by
    rw [Int.emod_def, Int.mul_comm]
  have r0 : 0 ≤ x % y := Int.emod_nonneg _ (by omega)
  have r1 : x % y < y := Int.emod_lt_of_pos _ hy.1
  rw [am_div32 hx hy, ← Int32.ofInt_mul, ← Int32.ofInt_sub, e, am_to (by omega)]
/-- what feed and end change -/
def am_fr (I I' : Nat → Nat → Int) : Prop := ∀ a j : Nat, ¬ (a = 13 ∧ j = 1) → a ≠ 14 → ¬ (a = 101 ∧ j = 1) → a ≠ 102 → I' a j = I a j
def am_hRs (Rs : (Nat → Nat → Int) → (Nat → Nat → Int) → Nat → Nat → Prop) : Prop := ∀ (I I' J : Nat → Nat → Int) (r s : Nat), am_fr I I' → Rs I J r s → Rs I' J r s
section FEED
variable {Rs : (Nat → Nat → Int) → (Nat → Nat → Int) → Nat → Nat → Prop} {L : Nat} {xs : Nat → Int}
theorem am_Iv_fr (hRs : am_hRs Rs) {n : Nat} {K : Nat → am_K} {I I' J : Nat → Nat → Int} {R : Nat → Nat → Option Nat} (h : am_Iv Rs L xs (n, K, I, J, R)) (hf : am_fr I I') (hT : am_Tp I') : am_Iv Rs L xs (n, K, I', J, R) := by
  obtain ⟨⟨hB, hK0, hI0⟩, -, hp, r, r', hr, hr', hrr, hc⟩ := h
  have hp : I 11 7 = I 101 2 := hp
  have hI0 : ∀ a j : Nat, a < 11 → I a j = am_Zi xs a j := hI0
  have hc : I 11 6 = 0 ∧ I 101 14 = -1 ∨ I 11 6 = 1 ∧ ∃ s : Nat, s < 2 ∧ I 101 14 = (s : Int) ∧ am_Cn I r s ∧ am_Lk I ∧ Rs I J r s := hc
  refine ⟨⟨hB, hK0, fun a j ha => ?_⟩, hT, ?_, r, r', hr, hr', hrr, ?_⟩
  · exact (hf a j (by omega) (by omega) (by omega) (by omega)).trans (hI0 a j ha)
  · show I' 11 7 = I' 101 2
    rw [hf 11 7 (by omega) (by omega) (by omega) (by omega), hf 101 2 (by omega) (by omega) (by omega) (by omega), hp]
  · show I' 11 6 = 0 ∧ I' 101 14 = -1 ∨ I' 11 6 = 1 ∧ ∃ s : Nat, s < 2 ∧ I' 101 14 = (s : Int) ∧ am_Cn I' r s ∧ am_Lk I' ∧ Rs I' J r s
    rw [hf 11 6 (by omega) (by omega) (by omega) (by omega), hf 101 14 (by omega) (by omega) (by omega) (by omega)]
    rcases hc with hc | ⟨h6, s, hs, h14, hC, hL, hR⟩
    · exact Or.inl hc
    · refine Or.inr ⟨h6, s, hs, h14, ?_, ?_, hRs I I' J r s hf hR⟩
      · have hr1 : r = 41 ∨ r = 71 := hrr.imp And.left And.left
        have g : ∀ a j : Nat, a ≠ 13 → a ≠ 14 → a ≠ 101 → a ≠ 102 → I' a j = I a j := fun a j g1 g2 g3 g4 => hf a j (fun q => g1 q.1) g2 (fun q => g3 q.1) g4
        unfold am_Cn
        rw [g (r + 1) 0 (by omega) (by omega) (by omega) (by omega), g (r + 1) 1 (by omega) (by omega) (by omega) (by omega), g r 2 (by omega) (by omega) (by omega) (by omega), g r 3 (by omega) (by omega) (by omega) (by omega), g (r + 15) 0 (by omega) (by omega) (by omega) (by omega), g 108 s (by omega) (by omega) (by omega) (by omega), g 109 s (by omega) (by omega) (by omega) (by omega), g 114 s (by omega) (by omega) (by omega) (by omega), g 116 s (by omega) (by omega) (by omega) (by omega), g 117 s (by omega) (by omega) (by omega) (by omega)]
        exact hC
      · obtain ⟨l0, l1, l2, l3⟩ := hL
        unfold am_Lk
        rw [hf 29 0 (by omega) (by omega) (by omega) (by omega), hf 101 40 (by omega) (by omega) (by omega) (by omega)]
        refine ⟨l0, l1, l2, fun j hj => ?_⟩
        rw [hf 30 j (by omega) (by omega) (by omega) (by omega), hf 127 j (by omega) (by omega) (by omega) (by omega)]
        exact l3 j hj
theorem m_end {d n : Nat} {K : Nat → am_K} {I J : Nat → Nat → Int} {R : Nat → Nat → Option Nat} {Q : am_Q} {x len : Int} (hB : am_B K R) (hl : I 101 1 = len) (h0 : 0 ≤ len ∧ len ≤ 1200) (bad : x < 0 ∨ 20 < x ∨ len < 20 → Q (some (.inl (-1))) (n, K, I, J, R)) (good : 0 ≤ x → x ≤ 20 → 20 ≤ len → Q (some (.inl (len - 20 + x))) (n, K, am_u I 101 1 (len - 20 + x), J, R)) : am_WP d (am_entry 50 [.inr (.inl 101), .inl x] (n, K, I, J, R)) Q := by
  refine e_M_end ⟨fun h => bad (Or.inl h), fun hx => ⟨fun h => bad (Or.inr (Or.inl h)), fun hx2 => ⟨k_101 hB, fun z1 hz1 _ _ => ⟨fun hg => ⟨k_101 hB, fun z2 hz2 _ _ z3 q3 hz3 _ _ z4 q4 hz4 _ _ => ⟨⟨by decide, k_101 hB⟩, k_101 hB, fun z5 hz5 _ _ => ?_⟩⟩, fun h => bad (Or.inr (Or.inr (by omega)))⟩⟩⟩⟩
  have e4 : z4 = len - 20 + x := by omega
  have e5 : z5 = len - 20 + x := by rw [hz5, ← e4]; simp [am_u]
  rw [e4, e5]
  exact good hx hx2 (by omega)
theorem ok_end (hRs : am_hRs Rs) (x : Int) (hxr : -2147483648 ≤ x ∧ x ≤ 2147483647) : am_ok L xs (am_Iv Rs L xs) 6 50 [.inl x] := by
  rintro ⟨n, K, I, J, R⟩ hIv
  have hbs := hIv.1
  obtain ⟨⟨hB, hK0, hI0⟩, ⟨t0, t1, t2, t3⟩, hp, hS⟩ := hIv
  have t0 : 0 ≤ I 13 1 := t0
  have t1 : I 13 1 ≤ 1200 := t1
  have t2 : I 101 1 = I 13 1 := t2
  have t3 : ∀ j : Nat, (j : Int) < I 13 1 → I 14 j = I 102 j % 256 := t3
  have hIv : am_Iv Rs L xs (n, K, I, J, R) := ⟨⟨hB, hK0, hI0⟩, ⟨t0, t1, t2, t3⟩, hp, hS⟩
  have no : x < 0 ∨ 20 < x ∨ I 13 1 < 20 → ∃ z : Int, (some (.inl (-1)) : Option am_V) = some (.inl z) ∧ am_bs L xs (n, K, I, J, R) ∧ am_WP 1299 (am_entry 50 [.inr (.inl 101), .inl x] (n, K, I, J, R)) (fun v2 σ2 => v2 = some (.inl z) ∧ am_Iv Rs L xs σ2) := fun h => ⟨-1, rfl, hbs, m_end hB t2 ⟨t0, t1⟩ (fun _ => ⟨rfl, hIv⟩) (fun a b c => absurd h (by omega))⟩
  refine e_X_end ⟨k_11 hB, 12, r_11_0 hB, k_12 hB, 13, r_12_0 hB, fun h => no (Or.inl h), fun hx => ⟨fun h => no (Or.inr (Or.inl h)), fun hx2 => ⟨k_13 hB, fun z3 hz3 _ _ => ⟨fun hg => ⟨k_13 hB, fun z4 hz4 _ _ z5 q5 hz5 _ _ z6 q6 hz6 _ _ => ⟨⟨by decide, k_13 hB⟩, k_13 hB, fun z7 hz7 _ _ => ?_⟩⟩, fun h => no (Or.inr (Or.inr (by omega)))⟩⟩⟩⟩
  have e6 : z6 = I 13 1 - 20 + x := by omega
  have e7 : z7 = I 13 1 - 20 + x := by rw [hz7, ← e6]; simp [am_u]
  rw [e6, e7]
  have b1 : am_bs L xs (n, K, am_u I 13 1 (I 13 1 - 20 + x), J, R) := ⟨hB, hK0, fun a j ha => (am_u_ne (by omega)).trans (hI0 a j ha)⟩
  refine ⟨_, rfl, b1, m_end (len := I 13 1) hB t2 ⟨t0, t1⟩ (fun h => absurd h (by omega)) (fun _ _ _ => ⟨rfl, am_Iv_fr hRs hIv ?_ ?_⟩)⟩
  · intro a j g1 g2 g3 g4
    simp only [am_u]
    split
    · rename_i e; subst e
      split
      · rename_i e; exact absurd ⟨rfl, e⟩ g3
      · rw [if_neg (by omega)]
    · split
      · rename_i e; subst e
        split
        · rename_i e; exact absurd ⟨rfl, e⟩ g1
        · rfl
      · rfl
  · refine ⟨?_, ?_, ?_, fun j hj => ?_⟩
    · show 0 ≤ am_u (am_u I 13 1 (I 13 1 - 20 + x)) 101 1 (I 13 1 - 20 + x) 13 1
      simp [am_u]; omega
    · show am_u (am_u I 13 1 (I 13 1 - 20 + x)) 101 1 (I 13 1 - 20 + x) 13 1 ≤ 1200
      simp [am_u]; omega
    · simp [am_u]
    · have hj : (j : Int) < I 13 1 - 20 + x := by simpa [am_u] using hj
      have h2 := t3 j (by omega)
      simpa [am_u] using h2
end FEED
