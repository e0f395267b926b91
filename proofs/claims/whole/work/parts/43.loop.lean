def am_bs (L : Nat) (xs : Nat → Int) (σ : am_S) : Prop := am_B σ.2.1 σ.2.2.2.2 ∧ σ.2.1 0 = .inr (0, L) ∧ ∀ a j : Nat, a < 11 → σ.2.2.1 a j = am_Zi xs a j
/-- one call: class and reference answer alike, and what holds between them holds again -/
def am_ok (L : Nat) (xs : Nat → Int) (Inv : am_S → Prop) (mX mM : Nat) (as : List am_V) : Prop := ∀ σ : am_S, Inv σ → am_WP 1299 (am_entry mX (.inr (.inl 11) :: as) σ) (fun v σ1 => ∃ z : Int, v = some (.inl z) ∧ am_bs L xs σ1 ∧ am_WP 1299 (am_entry mM (.inr (.inl 101) :: as) σ1) (fun v2 σ2 => v2 = some (.inl z) ∧ Inv σ2))
set_option maxHeartbeats 4000000 in
set_option maxRecDepth 20000 in
theorem law_loop {L : Nat} {xs : Nat → Int} {Inv : am_S → Prop} (hL : L ≤ 3072) (hbs : ∀ σ, Inv σ → am_bs L xs σ) (hx : ∀ j, -2147483648 ≤ xs j ∧ xs j ≤ 2147483647) (o0 : ∀ a b c d e : Int, (-2147483648 ≤ a ∧ a ≤ 2147483647) → (-2147483648 ≤ b ∧ b ≤ 2147483647) → (-2147483648 ≤ c ∧ c ≤ 2147483647) → (-2147483648 ≤ d ∧ d ≤ 2147483647) → (-2147483648 ≤ e ∧ e ≤ 2147483647) → am_ok L xs Inv 5 49 [.inl a, .inl b, .inl c, .inl d, .inl e]) (o1 : ∀ a : Int, (-2147483648 ≤ a ∧ a ≤ 2147483647) → am_ok L xs Inv 6 50 [.inl a]) (o2 : am_ok L xs Inv 7 51 []) (o3 : am_ok L xs Inv 8 52 []) (o4 : ∀ a : Int, (-2147483648 ≤ a ∧ a ≤ 2147483647) → am_ok L xs Inv 9 53 [.inl a]) (o5 : ∀ a : Int, (-2147483648 ≤ a ∧ a ≤ 2147483647) → am_ok L xs Inv 10 56 [.inl a]) (o6 : am_ok L xs Inv 11 58 []) (o7 : ∀ a : Int, (-2147483648 ≤ a ∧ a ≤ 2147483647) → am_ok L xs Inv 12 59 [.inl a]) (o8 : am_ok L xs Inv 13 75 []) (o9 : ∀ a : Int, (-2147483648 ≤ a ∧ a ≤ 2147483647) → am_ok L xs Inv 14 76 [.inl a]) (o10 : ∀ a : Int, (-2147483648 ≤ a ∧ a ≤ 2147483647) → am_ok L xs Inv 15 77 [.inl a]) :
    ∀ (k i : Nat) (σ : am_S), L + 6 ≤ i + k → i ≤ L + 6 → Inv σ → am_WP 1300 (172, 18, [.inr (.inl 0), .inr (.inl 11), .inr (.inl 101), .inl (i : Int)], [], (127, 225611), σ) (fun v _ => v = some (.inl 1)) := by
  intro k
  induction k with
  | zero =>
    intro i σ hk hi hI
    obtain ⟨n, K, I, J, R⟩ := σ
    obtain ⟨hB, hK0, hI0⟩ := hbs _ hI
    refine s_W_law_18 (d := 1299) ⟨0, L, hK0, Or.inl ⟨by decide, by decide, by decide⟩, by omega, fun z q hz h1 h2 => ⟨fun _ => ⟨Or.inr rfl, rfl⟩, fun h => ?_⟩⟩
    omega
  | succ k ih =>
    intro i σ hk hi hI
    obtain ⟨n, K, I, J, R⟩ := σ
    obtain ⟨hB, hK0, hI0⟩ := hbs _ hI
    refine s_W_law_18 (d := 1299) ⟨0, L, hK0, Or.inl ⟨by decide, by decide, by decide⟩, by omega, fun z q hz h1 h2 => ⟨fun _ => ⟨Or.inr rfl, rfl⟩, fun hle => ⟨L, hK0, ⟨by omega, by omega⟩, fun z4 hz4 _ _ => fun z6 hz6 _ _ => ?_⟩⟩⟩
    have hiL : i + 6 ≤ L := by omega
    have next : ∀ (σ' : am_S) (z1 : Int), z1 = (i : Int) + 6 → Inv σ' → am_WP 1300 (172, 18, [.inr (.inl 0), .inr (.inl 11), .inr (.inl 101), .inl z1], [], (127, 225611), σ') (fun v _ => v = some (.inl 1)) := by
      intro σ' z1 h1 h
      subst h1
      exact ih (i + 6) σ' (by omega) (by omega) h
    refine ⟨fun h0 => ?_, fun _ => ?_⟩
    · intro za q hza _ _
      have e : za = (i : Int) + 1 := by omega
      subst e
      refine ⟨L, hK0, ⟨by omega, by omega⟩, fun zb hzb _ _ => ?_⟩
      have ea : zb = xs (i + 1) := by
        rw [hzb, show Int.toNat ((i : Int) + 1) = i + 1 by omega]
        exact hI0 0 _ (by decide)
      subst ea
      intro za q hza _ _
      have e : za = (i : Int) + 2 := by omega
      subst e
      refine ⟨L, hK0, ⟨by omega, by omega⟩, fun zb hzb _ _ => ?_⟩
      have ea : zb = xs (i + 2) := by
        rw [hzb, show Int.toNat ((i : Int) + 2) = i + 2 by omega]
        exact hI0 0 _ (by decide)
      subst ea
      intro za q hza _ _
      have e : za = (i : Int) + 3 := by omega
      subst e
      refine ⟨L, hK0, ⟨by omega, by omega⟩, fun zb hzb _ _ => ?_⟩
      have ea : zb = xs (i + 3) := by
        rw [hzb, show Int.toNat ((i : Int) + 3) = i + 3 by omega]
        exact hI0 0 _ (by decide)
      subst ea
      intro za q hza _ _
      have e : za = (i : Int) + 4 := by omega
      subst e
      refine ⟨L, hK0, ⟨by omega, by omega⟩, fun zb hzb _ _ => ?_⟩
      have ea : zb = xs (i + 4) := by
        rw [hzb, show Int.toNat ((i : Int) + 4) = i + 4 by omega]
        exact hI0 0 _ (by decide)
      subst ea
      intro za q hza _ _
      have e : za = (i : Int) + 5 := by omega
      subst e
      refine ⟨L, hK0, ⟨by omega, by omega⟩, fun zb hzb _ _ => ?_⟩
      have ea : zb = xs (i + 5) := by
        rw [hzb, show Int.toNat ((i : Int) + 5) = i + 5 by omega]
        exact hI0 0 _ (by decide)
      subst ea
      refine ⟨k_11 hB, (o0 _ _ _ _ _ (hx _) (hx _) (hx _) (hx _) (hx _) _ hI).mono ?_⟩
      rintro v ⟨n1, K1, I1, J1, R1⟩ ⟨z, hv, ⟨hB1, hK1, hI1⟩, hw⟩
      refine ⟨z, hv, s_W_law_121 (d := 1299) ?_⟩
      intro za q hza _ _
      have e : za = (i : Int) + 1 := by omega
      subst e
      refine ⟨L, hK1, ⟨by omega, by omega⟩, fun zb hzb _ _ => ?_⟩
      have ea : zb = xs (i + 1) := by
        rw [hzb, show Int.toNat ((i : Int) + 1) = i + 1 by omega]
        exact hI1 0 _ (by decide)
      subst ea
      intro za q hza _ _
      have e : za = (i : Int) + 2 := by omega
      subst e
      refine ⟨L, hK1, ⟨by omega, by omega⟩, fun zb hzb _ _ => ?_⟩
      have ea : zb = xs (i + 2) := by
        rw [hzb, show Int.toNat ((i : Int) + 2) = i + 2 by omega]
        exact hI1 0 _ (by decide)
      subst ea
      intro za q hza _ _
      have e : za = (i : Int) + 3 := by omega
      subst e
      refine ⟨L, hK1, ⟨by omega, by omega⟩, fun zb hzb _ _ => ?_⟩
      have ea : zb = xs (i + 3) := by
        rw [hzb, show Int.toNat ((i : Int) + 3) = i + 3 by omega]
        exact hI1 0 _ (by decide)
      subst ea
      intro za q hza _ _
      have e : za = (i : Int) + 4 := by omega
      subst e
      refine ⟨L, hK1, ⟨by omega, by omega⟩, fun zb hzb _ _ => ?_⟩
      have ea : zb = xs (i + 4) := by
        rw [hzb, show Int.toNat ((i : Int) + 4) = i + 4 by omega]
        exact hI1 0 _ (by decide)
      subst ea
      intro za q hza _ _
      have e : za = (i : Int) + 5 := by omega
      subst e
      refine ⟨L, hK1, ⟨by omega, by omega⟩, fun zb hzb _ _ => ?_⟩
      have ea : zb = xs (i + 5) := by
        rw [hzb, show Int.toNat ((i : Int) + 5) = i + 5 by omega]
        exact hI1 0 _ (by decide)
      subst ea
      refine ⟨k_101 hB1, hw.mono ?_⟩
      rintro v2 ⟨n2, K2, I2, J2, R2⟩ ⟨hv2, hInv⟩
      exact ⟨z, hv2, s_W_law_150 ⟨fun _ z1 q1 h1 _ _ => next _ z1 (by omega) hInv, fun h => absurd rfl h⟩⟩
    refine ⟨fun h1 => ?_, fun _ => ?_⟩
    · intro za q hza _ _
      have e : za = (i : Int) + 1 := by omega
      subst e
      refine ⟨L, hK0, ⟨by omega, by omega⟩, fun zb hzb _ _ => ?_⟩
      have ea : zb = xs (i + 1) := by
        rw [hzb, show Int.toNat ((i : Int) + 1) = i + 1 by omega]
        exact hI0 0 _ (by decide)
      subst ea
      refine ⟨k_11 hB, (o1 _ (hx _) _ hI).mono ?_⟩
      rintro v ⟨n1, K1, I1, J1, R1⟩ ⟨z, hv, ⟨hB1, hK1, hI1⟩, hw⟩
      refine ⟨z, hv, s_W_law_164 (d := 1299) ?_⟩
      intro za q hza _ _
      have e : za = (i : Int) + 1 := by omega
      subst e
      refine ⟨L, hK1, ⟨by omega, by omega⟩, fun zb hzb _ _ => ?_⟩
      have ea : zb = xs (i + 1) := by
        rw [hzb, show Int.toNat ((i : Int) + 1) = i + 1 by omega]
        exact hI1 0 _ (by decide)
      subst ea
      refine ⟨k_101 hB1, hw.mono ?_⟩
      rintro v2 ⟨n2, K2, I2, J2, R2⟩ ⟨hv2, hInv⟩
      exact ⟨z, hv2, s_W_law_173 ⟨fun _ z1 q1 h1 _ _ => next _ z1 (by omega) hInv, fun h => absurd rfl h⟩⟩
    refine ⟨fun h2 => ?_, fun _ => ?_⟩
    · refine ⟨k_11 hB, (o2 _ hI).mono ?_⟩
      rintro v ⟨n1, K1, I1, J1, R1⟩ ⟨z, hv, ⟨hB1, hK1, hI1⟩, hw⟩
      refine ⟨z, hv, s_W_law_182 (d := 1299) ⟨k_101 hB1, hw.mono ?_⟩⟩
      rintro v2 ⟨n2, K2, I2, J2, R2⟩ ⟨hv2, hInv⟩
      exact ⟨z, hv2, s_W_law_186 ⟨fun _ z1 q1 h1 _ _ => next _ z1 (by omega) hInv, fun h => absurd rfl h⟩⟩
    refine ⟨fun h3 => ?_, fun _ => ?_⟩
    · refine ⟨k_11 hB, (o3 _ hI).mono ?_⟩
      rintro v ⟨n1, K1, I1, J1, R1⟩ ⟨z, hv, ⟨hB1, hK1, hI1⟩, hw⟩
      refine ⟨z, hv, s_W_law_195 (d := 1299) ⟨k_101 hB1, hw.mono ?_⟩⟩
      rintro v2 ⟨n2, K2, I2, J2, R2⟩ ⟨hv2, hInv⟩
      exact ⟨z, hv2, s_W_law_199 ⟨fun _ z1 q1 h1 _ _ => next _ z1 (by omega) hInv, fun h => absurd rfl h⟩⟩
    refine ⟨fun h4 => ?_, fun _ => ?_⟩
    · intro za q hza _ _
      have e : za = (i : Int) + 1 := by omega
      subst e
      refine ⟨L, hK0, ⟨by omega, by omega⟩, fun zb hzb _ _ => ?_⟩
      have ea : zb = xs (i + 1) := by
        rw [hzb, show Int.toNat ((i : Int) + 1) = i + 1 by omega]
        exact hI0 0 _ (by decide)
      subst ea
      refine ⟨k_11 hB, (o4 _ (hx _) _ hI).mono ?_⟩
      rintro v ⟨n1, K1, I1, J1, R1⟩ ⟨z, hv, ⟨hB1, hK1, hI1⟩, hw⟩
      refine ⟨z, hv, s_W_law_213 (d := 1299) ?_⟩
      intro za q hza _ _
      have e : za = (i : Int) + 1 := by omega
      subst e
      refine ⟨L, hK1, ⟨by omega, by omega⟩, fun zb hzb _ _ => ?_⟩
      have ea : zb = xs (i + 1) := by
        rw [hzb, show Int.toNat ((i : Int) + 1) = i + 1 by omega]
        exact hI1 0 _ (by decide)
      subst ea
      refine ⟨k_101 hB1, hw.mono ?_⟩
      rintro v2 ⟨n2, K2, I2, J2, R2⟩ ⟨hv2, hInv⟩
      exact ⟨z, hv2, s_W_law_222 ⟨fun _ z1 q1 h1 _ _ => next _ z1 (by omega) hInv, fun h => absurd rfl h⟩⟩
    refine ⟨fun h5 => ?_, fun _ => ?_⟩
    · intro za q hza _ _
      have e : za = (i : Int) + 1 := by omega
      subst e
      refine ⟨L, hK0, ⟨by omega, by omega⟩, fun zb hzb _ _ => ?_⟩
      have ea : zb = xs (i + 1) := by
        rw [hzb, show Int.toNat ((i : Int) + 1) = i + 1 by omega]
        exact hI0 0 _ (by decide)
      subst ea
      refine ⟨k_11 hB, (o5 _ (hx _) _ hI).mono ?_⟩
      rintro v ⟨n1, K1, I1, J1, R1⟩ ⟨z, hv, ⟨hB1, hK1, hI1⟩, hw⟩
      refine ⟨z, hv, s_W_law_236 (d := 1299) ?_⟩
      intro za q hza _ _
      have e : za = (i : Int) + 1 := by omega
      subst e
      refine ⟨L, hK1, ⟨by omega, by omega⟩, fun zb hzb _ _ => ?_⟩
      have ea : zb = xs (i + 1) := by
        rw [hzb, show Int.toNat ((i : Int) + 1) = i + 1 by omega]
        exact hI1 0 _ (by decide)
      subst ea
      refine ⟨k_101 hB1, hw.mono ?_⟩
      rintro v2 ⟨n2, K2, I2, J2, R2⟩ ⟨hv2, hInv⟩
      exact ⟨z, hv2, s_W_law_245 ⟨fun _ z1 q1 h1 _ _ => next _ z1 (by omega) hInv, fun h => absurd rfl h⟩⟩
    refine ⟨fun h6 => ?_, fun _ => ?_⟩
    · refine ⟨k_11 hB, (o6 _ hI).mono ?_⟩
      rintro v ⟨n1, K1, I1, J1, R1⟩ ⟨z, hv, ⟨hB1, hK1, hI1⟩, hw⟩
      refine ⟨z, hv, s_W_law_254 (d := 1299) ⟨k_101 hB1, hw.mono ?_⟩⟩
      rintro v2 ⟨n2, K2, I2, J2, R2⟩ ⟨hv2, hInv⟩
      exact ⟨z, hv2, s_W_law_258 ⟨fun _ z1 q1 h1 _ _ => next _ z1 (by omega) hInv, fun h => absurd rfl h⟩⟩
    refine ⟨fun h7 => ?_, fun _ => ?_⟩
    · intro za q hza _ _
      have e : za = (i : Int) + 1 := by omega
      subst e
      refine ⟨L, hK0, ⟨by omega, by omega⟩, fun zb hzb _ _ => ?_⟩
      have ea : zb = xs (i + 1) := by
        rw [hzb, show Int.toNat ((i : Int) + 1) = i + 1 by omega]
        exact hI0 0 _ (by decide)
      subst ea
      refine ⟨k_11 hB, (o7 _ (hx _) _ hI).mono ?_⟩
      rintro v ⟨n1, K1, I1, J1, R1⟩ ⟨z, hv, ⟨hB1, hK1, hI1⟩, hw⟩
      refine ⟨z, hv, s_W_law_272 (d := 1299) ?_⟩
      intro za q hza _ _
      have e : za = (i : Int) + 1 := by omega
      subst e
      refine ⟨L, hK1, ⟨by omega, by omega⟩, fun zb hzb _ _ => ?_⟩
      have ea : zb = xs (i + 1) := by
        rw [hzb, show Int.toNat ((i : Int) + 1) = i + 1 by omega]
        exact hI1 0 _ (by decide)
      subst ea
      refine ⟨k_101 hB1, hw.mono ?_⟩
      rintro v2 ⟨n2, K2, I2, J2, R2⟩ ⟨hv2, hInv⟩
      exact ⟨z, hv2, s_W_law_281 ⟨fun _ z1 q1 h1 _ _ => next _ z1 (by omega) hInv, fun h => absurd rfl h⟩⟩
    refine ⟨fun h8 => ?_, fun _ => ?_⟩
    · refine ⟨k_11 hB, (o8 _ hI).mono ?_⟩
      rintro v ⟨n1, K1, I1, J1, R1⟩ ⟨z, hv, ⟨hB1, hK1, hI1⟩, hw⟩
      refine ⟨z, hv, s_W_law_290 (d := 1299) ⟨k_101 hB1, hw.mono ?_⟩⟩
      rintro v2 ⟨n2, K2, I2, J2, R2⟩ ⟨hv2, hInv⟩
      exact ⟨z, hv2, s_W_law_294 ⟨fun _ z1 q1 h1 _ _ => next _ z1 (by omega) hInv, fun h => absurd rfl h⟩⟩
    refine ⟨fun h9 => ?_, fun _ => ?_⟩
    · intro za q hza _ _
      have e : za = (i : Int) + 1 := by omega
      subst e
      refine ⟨L, hK0, ⟨by omega, by omega⟩, fun zb hzb _ _ => ?_⟩
      have ea : zb = xs (i + 1) := by
        rw [hzb, show Int.toNat ((i : Int) + 1) = i + 1 by omega]
        exact hI0 0 _ (by decide)
      subst ea
      refine ⟨k_11 hB, (o9 _ (hx _) _ hI).mono ?_⟩
      rintro v ⟨n1, K1, I1, J1, R1⟩ ⟨z, hv, ⟨hB1, hK1, hI1⟩, hw⟩
      refine ⟨z, hv, s_W_law_308 (d := 1299) ?_⟩
      intro za q hza _ _
      have e : za = (i : Int) + 1 := by omega
      subst e
      refine ⟨L, hK1, ⟨by omega, by omega⟩, fun zb hzb _ _ => ?_⟩
      have ea : zb = xs (i + 1) := by
        rw [hzb, show Int.toNat ((i : Int) + 1) = i + 1 by omega]
        exact hI1 0 _ (by decide)
      subst ea
      refine ⟨k_101 hB1, hw.mono ?_⟩
      rintro v2 ⟨n2, K2, I2, J2, R2⟩ ⟨hv2, hInv⟩
      exact ⟨z, hv2, s_W_law_317 ⟨fun _ z1 q1 h1 _ _ => next _ z1 (by omega) hInv, fun h => absurd rfl h⟩⟩
    refine ⟨fun h10 => ?_, fun _ => ?_⟩
    · intro za q hza _ _
      have e : za = (i : Int) + 1 := by omega
      subst e
      refine ⟨L, hK0, ⟨by omega, by omega⟩, fun zb hzb _ _ => ?_⟩
      have ea : zb = xs (i + 1) := by
        rw [hzb, show Int.toNat ((i : Int) + 1) = i + 1 by omega]
        exact hI0 0 _ (by decide)
      subst ea
      refine ⟨k_11 hB, (o10 _ (hx _) _ hI).mono ?_⟩
      rintro v ⟨n1, K1, I1, J1, R1⟩ ⟨z, hv, ⟨hB1, hK1, hI1⟩, hw⟩
      refine ⟨z, hv, s_W_law_331 (d := 1299) ?_⟩
      intro za q hza _ _
      have e : za = (i : Int) + 1 := by omega
      subst e
      refine ⟨L, hK1, ⟨by omega, by omega⟩, fun zb hzb _ _ => ?_⟩
      have ea : zb = xs (i + 1) := by
        rw [hzb, show Int.toNat ((i : Int) + 1) = i + 1 by omega]
        exact hI1 0 _ (by decide)
      subst ea
      refine ⟨k_101 hB1, hw.mono ?_⟩
      rintro v2 ⟨n2, K2, I2, J2, R2⟩ ⟨hv2, hInv⟩
      exact ⟨z, hv2, s_W_law_340 ⟨fun _ z1 q1 h1 _ _ => next _ z1 (by omega) hInv, fun h => absurd rfl h⟩⟩
    exact fun z1 q1 h1 _ _ => next _ z1 (by omega) hI
