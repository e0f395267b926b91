/-! TEXT: both sides -/
theorem sl_dis {w s s' j : Nat} (h : s ≠ s') (hs : s < 2) (hs' : s' < 2) (h1 : w * s ≤ j) (h2 : j < w * s + w) : ¬ (w * s' ≤ j ∧ j < w * s' + w) := by
  have e : (s = 0 ∧ s' = 1) ∨ (s = 1 ∧ s' = 0) := by omega
  rcases e with ⟨e1, e2⟩ | ⟨e1, e2⟩
  · subst e1; subst e2
    rw [Nat.mul_zero] at h1 h2
    rw [Nat.mul_one]
    omega
  · subst e1; subst e2
    rw [Nat.mul_one] at h1 h2
    rw [Nat.mul_zero]
    omega
def tx_fr (r s : Nat) (I I' J J' : Nat → Nat → Int) : Prop := (∀ a j : Nat, a ≠ 13 → ¬ (15 ≤ a ∧ a ≤ 17) → ¬ (r ≤ a ∧ a ≤ r + 29) → ¬ (a = 11 ∧ j = 7) → ¬ (a = 101 ∧ (j = 1 ∨ j = 2 ∨ j = 3 ∨ j = 7 ∨ j = 8 ∨ j = 9 ∨ j = 10 ∨ j = 11 ∨ j = 13 ∨ (33 ≤ j ∧ j ≤ 37))) → a ≠ 103 → a ≠ 104 → a ≠ 106 → ¬ (122 ≤ a ∧ a ≤ 124) → ¬ (107 ≤ a ∧ a ≤ 121 ∧ mw a * s ≤ j ∧ j < mw a * s + mw a) → I' a j = I a j) ∧ ∀ a j : Nat, a ≠ 18 → a ≠ r + 7 → a ≠ r + 20 → a ≠ 105 → ¬ (a = 110 ∧ 36 * s ≤ j ∧ j < 36 * s + 36) → J' a j = J a j
section IVT
variable {L : Nat} {xs : Nat → Int} {n : Nat} {K : Nat → am_K} {I I' J J' : Nat → Nat → Int} {R : Nat → Nat → Option Nat} {r' s' : Nat}
theorem Iv_tx (hI : am_Iv Rs L xs (n, K, I, J, R)) (h5 : R 11 5 = some r') (hs' : s' < 2) (hss : ∀ s : Nat, I 101 14 = (s : Int) → s ≠ s') (hf : tx_fr r' s' I I' J J') (h13 : I' 13 1 = 0) (h101 : I' 101 1 = 0) (hp : I' 11 7 = I' 101 2) : am_Iv Rs L xs (n, K, I', J', R) := by
  obtain ⟨⟨hB, hK0, hI0⟩, hT, -, r, r2, h4, h52, hrr, hc⟩ := hI
  have er : r2 = r' := by
    have : R 11 5 = some r2 := h52
    rw [h5] at this
    exact (Option.some.inj this).symm
  subst er
  replace hc : I 11 6 = 0 ∧ I 101 14 = -1 ∨ I 11 6 = 1 ∧ ∃ s : Nat, s < 2 ∧ I 101 14 = (s : Int) ∧ am_Cn I r s ∧ am_Lk I ∧ Rs I J r s := hc
  revert hc
  have e : ∀ a j : Nat, (a < 11 ∨ a = 11 ∧ j ≠ 7 ∨ 29 ≤ a ∧ a < 41 ∨ r ≤ a ∧ a ≤ r + 29 ∨ a = 101 ∧ (j = 14 ∨ j = 40 ∨ j = 43 ∨ j = 54) ∨ 127 ≤ a) → I' a j = I a j := fun a j ha => hf.1 a j (by omega) (by omega) (by omega) (by omega) (by omega) (by omega) (by omega) (by omega) (by omega) (by omega)
  have e6 : I' 11 6 = I 11 6 := e 11 6 (by omega)
  have e14 : I' 101 14 = I 101 14 := e 101 14 (by omega)
  intro hc
  refine ⟨⟨hB, hK0, fun a j ha => (e a j (Or.inl ha)).trans (hI0 a j ha)⟩, ⟨?_, ?_, ?_, fun j hj => ?_⟩, hp, r, r2, h4, h52, hrr, ?_⟩
  · show 0 ≤ I' 13 1; clear hc; omega
  · show I' 13 1 ≤ 1200; clear hc; omega
  · show I' 101 1 = I' 13 1; clear hc; omega
  · have hj : (j : Int) < I' 13 1 := hj
    clear hc
    omega
  · show I' 11 6 = 0 ∧ I' 101 14 = -1 ∨ I' 11 6 = 1 ∧ ∃ s : Nat, s < 2 ∧ I' 101 14 = (s : Int) ∧ am_Cn I' r s ∧ am_Lk I' ∧ Rs I' J' r s
    rw [e6, e14]
    rcases hc with hc | ⟨h6, s, hs, h14, hC, hLk, ws, N, m, wd, nmL, h0, h1, h2⟩
    · exact Or.inl hc
    · have hne := hss s h14
      have hr := h0.1.1
      have sl : ∀ a j : Nat, 107 ≤ a → a ≤ 121 → mw a * s ≤ j → j < mw a * s + mw a → I' a j = I a j := fun a j a1 a2 a3 a4 => hf.1 a j (by omega) (by omega) (by omega) (by omega) (by omega) (by omega) (by omega) (by omega) (by omega) (fun q => sl_dis hne hs hs' a3 a4 q.2.2)
      have hq : Rq r s I I' J J' := ⟨⟨fun x a1 a2 => funext fun j => e x j (by omega), fun x a1 a2 => funext fun j => hf.2 x j (by omega) (by omega) (by omega) (by omega) (by omega)⟩, fun x a1 a2 => funext fun j => e x j (by omega), sl, fun j a1 a2 => hf.2 110 j (by decide) (by omega) (by omega) (by decide) (fun q => sl_dis hne hs hs' a1 a2 q.2)⟩
      refine Or.inr ⟨h6, s, hs, h14, ?_, Lk_fr hLk (e _ _ (by omega)) (e _ _ (by omega)) (funext fun j => e _ _ (by omega)) (funext fun j => e _ _ (by omega)), ws, N, m, wd, nmL, R0_fr hq h0, Ex_fr hq (e _ _ (by omega)) (e _ _ (by omega)) (funext fun j => e _ _ (by omega)) (e _ _ (by omega)) (e _ _ (by omega)) (funext fun j => e _ _ (by omega)) h1, Nv_fr hq (funext fun j => e _ _ (by omega)) h2⟩
      have m1 : ∀ a : Nat, (a = 108 ∨ a = 109 ∨ a = 114 ∨ a = 116 ∨ a = 117) → I' a s = I a s := by
        intro a ha
        have ew : mw a = 1 := by
          rcases ha with q | q | q | q | q <;> subst q <;> rfl
        exact sl a s (by omega) (by omega) (by rw [ew]; omega) (by rw [ew]; omega)
      unfold am_Cn
      rw [e (r + 1) 0 (by omega), e (r + 1) 1 (by omega), e r 2 (by omega), e r 3 (by omega), e (r + 15) 0 (by omega), m1 108 (by decide), m1 109 (by decide), m1 114 (by decide), m1 116 (by decide), m1 117 (by decide)]
      exact hC
end IVT
section XTX
variable {d n : Nat} {C : Nat → am_K} {I J : Nat → Nat → Int} {R : Nat → Nat → Option Nat} {Q : am_Q}
theorem x_txF {y x1 : Int} (hB : am_B C R) (hy : 0 ≤ y) (post : Q (some (.inl (if x1 = 0 then -2 else -3))) (n, C, am_u (am_u I 11 7 y) 13 1 0, J, R)) : am_WP (d + 1) (7, 37, [.inr (.inl 11), .inl x1, am_o], [.inl y, .inr (.inl 11)], (0, 0), n, C, I, J, R) Q := by
  refine s_X_text_37 ⟨⟨by decide, (am_kk hB rfl)⟩, (am_kk hB rfl), 12, (am_rf hB rfl), (am_kk hB rfl), 13, (am_rf hB rfl), ⟨by decide, (am_kk hB rfl)⟩, (am_kk hB rfl), ?_⟩
  refine am_nm_k (v := y) ((am_u_ne (by decide)).trans am_u_kk) (fun z hz _ _ => ⟨fun h => absurd h (by omega), fun _ => ⟨fun h => s_X_text_70 ?_, fun h => s_X_text_70 ?_⟩⟩)
  · rw [if_pos h] at post; exact post
  · rw [if_neg h] at post; exact post
end XTX
