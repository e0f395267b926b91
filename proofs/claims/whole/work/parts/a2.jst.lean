/-! THE EXAMPLE: each settled place is asked for by a row -/
section JST
variable (a : Nat → List (Nat × Int)) (nr : Nat) (F : Nat → Nat → Int) (r m : Nat)
def jst (K : Nat → Int) : Prop := ∀ q : Nat, K q ≠ -1 → ∃ (ρ : Nat) (v : Int), ρ < nr ∧ (q, v) ∈ a ρ ∧ vdf m (K q) ∧ K q ≤ 1099 ∧ twf F r (K q) = twf F r v ∧ ∀ x ∈ a ρ, x.1 ≠ q → un x.1 q → K x.1 = x.2
end JST
section JSL
variable {a : Nat → List (Nat × Int)} {nr : Nat} {F Ic : Nat → Nat → Int} {r m s N : Nat} {S : Nat → Prop}
theorem Nx_le {K : Nat → Int} {p : Nat} {w v : Int} (hA : aOk a nr (twf F r) (vdf m)) (hC : cE F r s N m Ic) (hV : ∀ ρ : Nat, ρ < nr → ∀ x ∈ a ρ, x.2 ≤ 1099) (n12 : nr ≤ 12) (hw : vdf m w) (h : Nx a nr (twf F r) (vdf m) S K p w v) : v ≤ 1099 := by
  obtain ⟨h1, h2, h3, h4, h5⟩ := h
  rcases Int.lt_or_le v 100 with q | q
  · omega
  · have hw : 100 ≤ w := by
      rw [twf_num q] at h2
      exact num_6 hC hw h2.symm
    obtain ⟨-, g2⟩ := h5 hw
    rcases g2 with ⟨⟨ρ, r1, r2, r3, r4⟩, -⟩ | ⟨g3, g4, -⟩
    · exact hV ρ r1 _ r4
    · obtain ⟨n0, u1, u2⟩ := unw (S := S) hA p K 100
      rcases Int.lt_or_le (100 + (n0 : Int)) v with g | g
      · exact absurd (g4 _ (by omega) g) u2
      · omega
theorem un_up {p q : Nat} (h : un p q) (hne : p ≠ q) : un p (pr q) := by
  obtain ⟨k, hk⟩ := h
  cases k with
  | zero => exact absurd hk.symm hne
  | succ k => exact ⟨k, hk⟩
theorem Fst_jst (hA : aOk a nr (twf F r) (vdf m)) (hC : cE F r s N m Ic) (hV : ∀ ρ : Nat, ρ < nr → ∀ x ∈ a ρ, x.2 ≤ 1099) (hO : ∀ ρ : Nat, ρ < nr → aOrd [] (a ρ)) (n12 : nr ≤ 12) : ∀ (n : Nat) (K K' : Nat → Int), Fst a nr (twf F r) (vdf m) S n K K' → clo K → typ a nr (twf F r) (vdf m) K → jst a nr F r m K → jst a nr F r m K' := by
  intro n
  induction n with
  | zero => intro K K' h _ _ hj; rw [h.2]; exact hj
  | succ n ih =>
    intro K K' h hc ht hj
    rcases h with ⟨-, h⟩ | ⟨ρ, p, w, v, h1, h2, h3, h4⟩
    · rw [h]; exact hj
    · obtain ⟨m1, m2, m3⟩ := fo_at h1 (hO ρ h1.1) h2
      obtain ⟨c1, c2⟩ := ct_ku hA hc ht h1.1 m1 m2 m3 h3.1 h3.2.1
      have wv := (hA.1 ρ h1.1 _ m1).2.1
      have wv : vdf m w := wv
      refine ih (ku K p v) K' h4 c1 c2 (fun q hq => ?_)
      by_cases e : q = p
      · subst e
        refine ⟨ρ, w, h1.1, m1, by rw [ku_eq]; exact h3.1, by rw [ku_eq]; exact Nx_le hA hC hV n12 wv h3, by rw [ku_eq]; exact h3.2.1, fun x hx hne hun => ?_⟩
        rw [ku_ne hne]
        have x1 := (hA.1 ρ h1.1 x hx).1
        have hup := un_up hun hne
        have hxk : K x.1 ≠ -1 := by
          rcases m3 with g | ⟨c, g1, g2⟩
          · exfalso
            obtain ⟨k, hk⟩ := hup
            have := pq_le k (pr q)
            have h0 : pr q = 0 := by unfold pr; omega
            omega
          · obtain ⟨k, hk⟩ := hup
            exact clo_un hc k x.1 (pr q) x1 hk (by rw [g2]; exact (hA.1 ρ h1.1 _ g1).2.2.1)
        rcases h1.2.2.1 x hx with g | g
        · exact absurd g hxk
        · exact g
      · rw [ku_ne e] at hq
        obtain ⟨ρ', v', j1, j2, j3, j4, j5, j6⟩ := hj q hq
        refine ⟨ρ', v', j1, j2, by rw [ku_ne e]; exact j3, by rw [ku_ne e]; exact j4, by rw [ku_ne e]; exact j5, fun x hx hne hun => ?_⟩
        have := j6 x hx hne hun
        by_cases e2 : x.1 = p
        · rw [e2, m2] at this
          exact absurd this.symm (hA.1 ρ' j1 x hx).2.2.1
        · rw [ku_ne e2]; exact this
theorem jst_0 : jst a nr F r m (fun _ => -1) := fun q h => absurd rfl h
end JSL
