/-! WHAT HOLDS BETWEEN CLASS AND REFERENCE, and the calls that only look at it. -/
def am_Tp (I : Nat → Nat → Int) : Prop := 0 ≤ I 13 1 ∧ I 13 1 ≤ 1200 ∧ I 101 1 = I 13 1 ∧ ∀ j : Nat, (j : Int) < I 13 1 → I 14 j = I 102 j % 256
def am_Cn (I : Nat → Nat → Int) (r s : Nat) : Prop := I (r + 1) 0 = I 108 s ∧ I (r + 1) 1 = I 109 s ∧ I r 2 = I 114 s ∧ I r 3 = I 116 s ∧ I (r + 15) 0 = I 117 s
def am_Lk (I : Nat → Nat → Int) : Prop := 0 ≤ I 29 0 ∧ I 29 0 ≤ 60 ∧ I 101 40 = I 29 0 ∧ ∀ j : Nat, (j : Int) < I 29 0 → I 30 j = I 127 j
section SIMPLE
variable (Rs : (Nat → Nat → Int) → (Nat → Nat → Int) → Nat → Nat → Prop)
def am_St (I J : Nat → Nat → Int) (R : Nat → Nat → Option Nat) : Prop := ∃ r r' : Nat, R 11 4 = some r ∧ R 11 5 = some r' ∧ (r = 41 ∧ r' = 71 ∨ r = 71 ∧ r' = 41) ∧ (I 11 6 = 0 ∧ I 101 14 = -1 ∨ I 11 6 = 1 ∧ ∃ s : Nat, s < 2 ∧ I 101 14 = (s : Int) ∧ am_Cn I r s ∧ am_Lk I ∧ Rs I J r s)
def am_Iv (L : Nat) (xs : Nat → Int) (σ : am_S) : Prop := am_bs L xs σ ∧ am_Tp σ.2.2.1 ∧ σ.2.2.1 11 7 = σ.2.2.1 101 2 ∧ am_St Rs σ.2.2.1 σ.2.2.2.1 σ.2.2.2.2
end SIMPLE
section OPS
variable {Rs : (Nat → Nat → Int) → (Nat → Nat → Int) → Nat → Nat → Prop} {L : Nat} {xs : Nat → Int}
theorem ok_place : am_ok L xs (am_Iv Rs L xs) 8 52 [] := by
  rintro ⟨n, K, I, J, R⟩ ⟨⟨hB, hK0, hI0⟩, hT, hp, hS⟩
  refine e_X_place ⟨k_11 hB, fun z1 hz1 _ _ => ⟨z1, rfl, ⟨hB, hK0, hI0⟩, e_M_place ⟨k_101 hB, fun z2 hz2 _ _ => ⟨?_, ⟨hB, hK0, hI0⟩, hT, hp, hS⟩⟩⟩⟩
  have hp' : I 11 7 = I 101 2 := hp
  rw [hz1, hz2, hp']
theorem ok_looks : am_ok L xs (am_Iv Rs L xs) 11 58 [] := by
  rintro ⟨n, K, I, J, R⟩ ⟨⟨hB, hK0, hI0⟩, hT, hp, hS⟩
  have hIv : am_Iv Rs L xs (n, K, I, J, R) := ⟨⟨hB, hK0, hI0⟩, hT, hp, hS⟩
  obtain ⟨r, r', hr, hr', hrr, hc⟩ := hS
  have hc : I 11 6 = 0 ∧ I 101 14 = -1 ∨ I 11 6 = 1 ∧ ∃ s : Nat, s < 2 ∧ I 101 14 = (s : Int) ∧ am_Cn I r s ∧ am_Lk I ∧ Rs I J r s := hc
  refine e_X_looks ⟨k_11 hB, fun z1 hz1 _ _ => ?_⟩
  rcases hc with ⟨h6, h14⟩ | ⟨h6, s, hs, h14, hC, hL, hR⟩
  · refine ⟨fun _ => s_X_looks_18 ⟨-1, rfl, ⟨hB, hK0, hI0⟩, e_M_looks ⟨k_101 hB, fun z hz _ _ => ⟨fun h => ?_, fun _ => s_M_looks_15 ⟨rfl, hIv⟩⟩⟩⟩, fun h => ?_⟩
    · omega
    · exact absurd (hz1.trans h6) h
  · refine ⟨fun h => ?_, fun _ => ⟨k_11 hB, 29, r_11_2 hB, k_29 hB, fun z3 hz3 _ _ => s_X_looks_18 ⟨z3, rfl, ⟨hB, hK0, hI0⟩, e_M_looks ⟨k_101 hB, fun z hz _ _ => ⟨fun _ => ⟨k_101 hB, fun z4 hz4 _ _ => s_M_looks_15 ⟨?_, hIv⟩⟩, fun h => ?_⟩⟩⟩⟩⟩
    · omega
    · rw [hz4, hz3, hL.2.2.1]
    · omega
theorem ok_looked (x : Int) (_ : -2147483648 ≤ x ∧ x ≤ 2147483647) : am_ok L xs (am_Iv Rs L xs) 12 59 [.inl x] := by
  rintro ⟨n, K, I, J, R⟩ ⟨⟨hB, hK0, hI0⟩, hT, hp, hS⟩
  have hIv : am_Iv Rs L xs (n, K, I, J, R) := ⟨⟨hB, hK0, hI0⟩, hT, hp, hS⟩
  obtain ⟨r, r', hr, hr', hrr, hc⟩ := hS
  have hc : I 11 6 = 0 ∧ I 101 14 = -1 ∨ I 11 6 = 1 ∧ ∃ s : Nat, s < 2 ∧ I 101 14 = (s : Int) ∧ am_Cn I r s ∧ am_Lk I ∧ Rs I J r s := hc
  have fin : ∀ y : Int, am_WP 1299 (am_entry 59 [.inr (.inl 101), .inl x] (n, K, I, J, R)) (fun v2 σ2 => v2 = some (.inl y) ∧ am_Iv Rs L xs σ2) → am_WP 1299 (12, 35, [.inr (.inl 11), .inl x], [.inl y], (0, 0), n, K, I, J, R) (fun v σ1 => ∃ z : Int, v = some (.inl z) ∧ am_bs L xs σ1 ∧ am_WP 1299 (am_entry 59 [.inr (.inl 101), .inl x] σ1) (fun v2 σ2 => v2 = some (.inl z) ∧ am_Iv Rs L xs σ2)) := fun y h => s_X_looked_35 ⟨y, rfl, ⟨hB, hK0, hI0⟩, h⟩
  refine e_X_looked ⟨k_11 hB, fun z1 hz1 _ _ => ?_⟩
  rcases hc with ⟨h6, h14⟩ | ⟨h6, s, hs, h14, hC, ⟨l0, l1, l2, l3⟩, hR⟩
  · refine ⟨fun _ => fin _ (e_M_looked ⟨k_101 hB, fun z hz _ _ => ⟨fun _ => s_M_looked_29 ⟨rfl, hIv⟩, fun h => ?_⟩⟩), fun h => absurd (hz1.trans h6) h⟩
    omega
  · refine ⟨fun h => absurd h (by omega), fun _ => ⟨fun hx => fin _ (e_M_looked ⟨k_101 hB, fun z hz _ _ => ⟨fun h => absurd h (by omega), fun _ => ⟨fun _ => s_M_looked_29 ⟨rfl, hIv⟩, fun h => absurd h (by omega)⟩⟩⟩), fun hx => ⟨k_11 hB, 29, r_11_2 hB, k_29 hB, fun z3 hz3 _ _ => ⟨fun hge => ?_, fun hlt => ⟨k_11 hB, 29, r_11_2 hB, k_29 hB, 30, r_29_1 hB, 60, k_30 hB, ⟨hx, by omega⟩, fun z6 hz6 _ _ => ?_⟩⟩⟩⟩⟩
    · refine fin _ (e_M_looked ⟨k_101 hB, fun z hz _ _ => ⟨fun h => absurd h (by omega), fun _ => ⟨fun h => absurd h (by omega), fun _ => ⟨k_101 hB, fun z2 hz2 _ _ => ⟨fun h => absurd h (by omega), fun _ => s_M_looked_29 ⟨rfl, hIv⟩⟩⟩⟩⟩⟩)
    · refine fin _ (e_M_looked ⟨k_101 hB, fun z hz _ _ => ⟨fun h => absurd h (by omega), fun _ => ⟨fun h => absurd h (by omega), fun _ => ⟨k_101 hB, fun z2 hz2 _ _ => ⟨fun _ => ⟨k_101 hB, 127, r_101_41 hB, 400, k_127 hB, ⟨hx, by omega⟩, fun z4 hz4 _ _ => s_M_looked_29 ⟨?_, hIv⟩⟩, fun h => absurd h (by omega)⟩⟩⟩⟩⟩)
      rw [hz4, hz6, l3 x.toNat (by omega)]
theorem m_told {d n : Nat} {K : Nat → am_K} {I J : Nat → Nat → Int} {R : Nat → Nat → Option Nat} {Q : am_Q} {s : Nat} {x : Int} (hB : am_B K R) (hs : s < 2) (h14 : I 101 14 = (s : Int)) (h0 : x = 0 → Q (some (.inl (I 108 s))) (n, K, I, J, R)) (h1 : x = 1 → Q (some (.inl (I 109 s))) (n, K, I, J, R)) (h2 : x = 2 → Q (some (.inl (I 114 s))) (n, K, I, J, R)) (h3 : x = 3 → Q (some (.inl (I 116 s))) (n, K, I, J, R)) (h4 : x = 4 → Q (some (.inl (I 117 s))) (n, K, I, J, R)) (h5 : x ≠ 0 → x ≠ 1 → x ≠ 2 → x ≠ 3 → x ≠ 4 → Q (some (.inl (-1))) (n, K, I, J, R)) : am_WP d (am_entry 53 [.inr (.inl 101), .inl x] (n, K, I, J, R)) Q := by
  have hi : ∀ z : Int, z = I 101 14 → z.toNat = s := by intro z h; omega
  have step : ∀ (a : Nat) (P : Int → Prop), K a = .inr (0, 2) → P (I a s) → ∀ z : Int, z = I 101 14 → -2147483648 ≤ z → z ≤ 2147483647 → ∃ n5 : Nat, K a = .inr (0, n5) ∧ (0 ≤ z ∧ z < (n5 : Int)) ∧ am_nm (I a z.toNat) P := by
    intro a P hk hP z hz _ _
    exact ⟨2, hk, ⟨by omega, by omega⟩, fun w hw _ _ => by rw [hw, hi z hz]; exact hP⟩
  refine e_M_told ⟨k_101 hB, fun z1 hz1 _ _ => ⟨fun _ => ⟨fun n0 => ⟨fun n1 => ⟨fun n2 => ⟨fun n3 => ⟨fun n4 => s_M_told_94 (h5 n0 n1 n2 n3 n4), fun e => ⟨k_101 hB, 117, r_101_25 hB, k_101 hB, step 117 _ (k_117 hB) (s_M_told_94 (h4 e))⟩⟩, fun e => ⟨k_101 hB, 116, r_101_24 hB, k_101 hB, step 116 _ (k_116 hB) (s_M_told_94 (h3 e))⟩⟩, fun e => ⟨k_101 hB, 114, r_101_22 hB, k_101 hB, step 114 _ (k_114 hB) (s_M_told_94 (h2 e))⟩⟩, fun e => ⟨k_101 hB, 109, r_101_17 hB, k_101 hB, step 109 _ (k_109 hB) (s_M_told_94 (h1 e))⟩⟩, fun e => ⟨k_101 hB, 108, r_101_16 hB, k_101 hB, step 108 _ (k_108 hB) (s_M_told_94 (h0 e))⟩⟩, fun h => ?_⟩⟩
  omega
theorem ok_told (x : Int) (_ : -2147483648 ≤ x ∧ x ≤ 2147483647) : am_ok L xs (am_Iv Rs L xs) 9 53 [.inl x] := by
  rintro ⟨n, K, I, J, R⟩ ⟨⟨hB, hK0, hI0⟩, hT, hp, hS⟩
  have hIv : am_Iv Rs L xs (n, K, I, J, R) := ⟨⟨hB, hK0, hI0⟩, hT, hp, hS⟩
  obtain ⟨r, r', hr, hr', hrr, hc⟩ := hS
  have hr : R 11 4 = some r := hr
  have hrx : r = 41 ∨ r = 71 := hrr.imp And.left And.left
  have hc : I 11 6 = 0 ∧ I 101 14 = -1 ∨ I 11 6 = 1 ∧ ∃ s : Nat, s < 2 ∧ I 101 14 = (s : Int) ∧ am_Cn I r s ∧ am_Lk I ∧ Rs I J r s := hc
  refine e_X_told ⟨k_11 hB, fun z1 hz1 _ _ => ?_⟩
  rcases hc with ⟨h6, h14⟩ | ⟨h6, s, hs, h14, ⟨c0, c1, c2, c3, c4⟩, hL, hR⟩
  · refine ⟨fun h => absurd (hz1.trans h6) h, fun _ => ⟨-1, rfl, ⟨hB, hK0, hI0⟩, e_M_told ⟨k_101 hB, fun z hz _ _ => ⟨fun h => ?_, fun _ => ⟨rfl, hIv⟩⟩⟩⟩⟩
    omega
  · have e : ∀ z y : Int, z = y → (some (.inl y) : Option am_V) = some (.inl z) := by intro z y h; rw [h]
    refine ⟨fun _ => ⟨fun e0 => ⟨k_11 hB, r, hr, kr_0 hB hrx, r + 1, rr_0_0 hB hrx, kr_1 hB hrx, fun z hz _ _ => ⟨z, rfl, ⟨hB, hK0, hI0⟩, m_told hB hs h14 (fun _ => ⟨e _ _ (hz.trans c0), hIv⟩) (fun h => ?_) (fun h => ?_) (fun h => ?_) (fun h => ?_) (fun h => absurd e0 h)⟩⟩, fun n0 => ⟨fun e1 => ⟨k_11 hB, r, hr, kr_0 hB hrx, r + 1, rr_0_0 hB hrx, kr_1 hB hrx, fun z hz _ _ => ⟨z, rfl, ⟨hB, hK0, hI0⟩, m_told hB hs h14 (fun h => absurd h n0) (fun _ => ⟨e _ _ (hz.trans c1), hIv⟩) (fun h => ?_) (fun h => ?_) (fun h => ?_) (fun _ h => absurd e1 h)⟩⟩, fun n1 => ⟨fun e2 => ⟨k_11 hB, r, hr, kr_0 hB hrx, fun z hz _ _ => ⟨z, rfl, ⟨hB, hK0, hI0⟩, m_told hB hs h14 (fun h => absurd h n0) (fun h => absurd h n1) (fun _ => ⟨e _ _ (hz.trans c2), hIv⟩) (fun h => ?_) (fun h => ?_) (fun _ _ h => absurd e2 h)⟩⟩, fun n2 => ⟨fun e3 => ⟨k_11 hB, r, hr, kr_0 hB hrx, fun z hz _ _ => ⟨z, rfl, ⟨hB, hK0, hI0⟩, m_told hB hs h14 (fun h => absurd h n0) (fun h => absurd h n1) (fun h => absurd h n2) (fun _ => ⟨e _ _ (hz.trans c3), hIv⟩) (fun h => ?_) (fun _ _ _ h => absurd e3 h)⟩⟩, fun n3 => ⟨fun e4 => ⟨k_11 hB, r, hr, kr_0 hB hrx, r + 15, rr_0_1 hB hrx, kr_15 hB hrx, fun z hz _ _ => ⟨z, rfl, ⟨hB, hK0, hI0⟩, m_told hB hs h14 (fun h => absurd h n0) (fun h => absurd h n1) (fun h => absurd h n2) (fun h => absurd h n3) (fun _ => ⟨e _ _ (hz.trans c4), hIv⟩) (fun _ _ _ _ h => absurd e4 h)⟩⟩, fun n4 => ⟨-1, rfl, ⟨hB, hK0, hI0⟩, m_told hB hs h14 (fun h => absurd h n0) (fun h => absurd h n1) (fun h => absurd h n2) (fun h => absurd h n3) (fun h => absurd h n4) (fun _ _ _ _ _ => ⟨rfl, hIv⟩)⟩⟩⟩⟩⟩⟩, fun h => ?_⟩
    all_goals omega
end OPS
